section
-- ===== PART A: goes FIRST, ahead of the names: the tables' words, and 'selects' of the private methods out of them =====
/-- a private method of a class that the tables say can be made, by its rows of tables_1 -/
def lw_okq (q : MethodName × Nat) : Prop := (q.1.cls ≠ "java/lang/invoke/MethodHandle" ∧ q.1.cls ≠ "java/lang/invoke/VarHandle") ∧ Cond.instantiable q.1.cls q.2 ∈ tables_1 ∧ Cond.privateMethod q.1 ∈ tables_1 ∧ Cond.instanceMethod q.1 ∈ tables_1
theorem lw_p0 : lw_okq (⟨"SeptetCentre", "deviceOf", "(I)LSeptetCentre$Device;"⟩, 6) := ⟨⟨by decide +kernel, by decide +kernel⟩, List.mem_of_getElem? (i := 23) (by decide +kernel), List.mem_of_getElem? (i := 160) (by decide +kernel), List.mem_of_getElem? (i := 161) (by decide +kernel)⟩
theorem lw_p1 : lw_okq (⟨"SeptetCentre", "sendUp", "(LSeptetCentre$Device;JIII)V"⟩, 6) := ⟨⟨by decide +kernel, by decide +kernel⟩, List.mem_of_getElem? (i := 23) (by decide +kernel), List.mem_of_getElem? (i := 224) (by decide +kernel), List.mem_of_getElem? (i := 225) (by decide +kernel)⟩
theorem lw_p2 : lw_okq (⟨"SeptetCentre$Row", "putDigits", "(JI)V"⟩, 3) := ⟨⟨by decide +kernel, by decide +kernel⟩, List.mem_of_getElem? (i := 233) (by decide +kernel), List.mem_of_getElem? (i := 283) (by decide +kernel), List.mem_of_getElem? (i := 284) (by decide +kernel)⟩
theorem lw_p3 : lw_okq (⟨"SeptetCentre$Row", "merge", "(II)V"⟩, 3) := ⟨⟨by decide +kernel, by decide +kernel⟩, List.mem_of_getElem? (i := 233) (by decide +kernel), List.mem_of_getElem? (i := 287) (by decide +kernel), List.mem_of_getElem? (i := 288) (by decide +kernel)⟩
theorem lw_p4 : lw_okq (⟨"java/util/ArrayList", "add", "(Ljava/lang/Object;[Ljava/lang/Object;I)V"⟩, 3) := ⟨⟨by decide +kernel, by decide +kernel⟩, List.mem_of_getElem? (i := 39) (by decide +kernel), List.mem_of_getElem? (i := 328) (by decide +kernel), List.mem_of_getElem? (i := 329) (by decide +kernel)⟩
theorem lw_p5 : lw_okq (⟨"java/util/ArrayList", "grow", "()[Ljava/lang/Object;"⟩, 3) := ⟨⟨by decide +kernel, by decide +kernel⟩, List.mem_of_getElem? (i := 39) (by decide +kernel), List.mem_of_getElem? (i := 332) (by decide +kernel), List.mem_of_getElem? (i := 333) (by decide +kernel)⟩
theorem lw_p6 : lw_okq (⟨"java/util/ArrayList", "grow", "(I)[Ljava/lang/Object;"⟩, 3) := ⟨⟨by decide +kernel, by decide +kernel⟩, List.mem_of_getElem? (i := 39) (by decide +kernel), List.mem_of_getElem? (i := 336) (by decide +kernel), List.mem_of_getElem? (i := 337) (by decide +kernel)⟩
theorem lw_p7 : lw_okq (⟨"java/util/ArrayList", "fastRemove", "([Ljava/lang/Object;I)V"⟩, 3) := ⟨⟨by decide +kernel, by decide +kernel⟩, List.mem_of_getElem? (i := 39) (by decide +kernel), List.mem_of_getElem? (i := 430) (by decide +kernel), List.mem_of_getElem? (i := 431) (by decide +kernel)⟩
theorem lw_p8 : lw_okq (⟨"SeptetCentre", "earliestPlace", "()I"⟩, 6) := ⟨⟨by decide +kernel, by decide +kernel⟩, List.mem_of_getElem? (i := 23) (by decide +kernel), List.mem_of_getElem? (i := 524) (by decide +kernel), List.mem_of_getElem? (i := 525) (by decide +kernel)⟩
theorem lw_p9 : lw_okq (⟨"SeptetCentre", "dealWith", "(LSeptetCentre$Message;I)V"⟩, 6) := ⟨⟨by decide +kernel, by decide +kernel⟩, List.mem_of_getElem? (i := 23) (by decide +kernel), List.mem_of_getElem? (i := 534) (by decide +kernel), List.mem_of_getElem? (i := 535) (by decide +kernel)⟩
theorem lw_p10 : lw_okq (⟨"SeptetCentre", "holderOf", "(J)LSeptetCentre$Device;"⟩, 6) := ⟨⟨by decide +kernel, by decide +kernel⟩, List.mem_of_getElem? (i := 23) (by decide +kernel), List.mem_of_getElem? (i := 540) (by decide +kernel), List.mem_of_getElem? (i := 541) (by decide +kernel)⟩
theorem lw_p11 : lw_okq (⟨"SeptetCentre$Device", "gather", "(LSeptetCentre$Row;J)I"⟩, 10) := ⟨⟨by decide +kernel, by decide +kernel⟩, List.mem_of_getElem? (i := 88) (by decide +kernel), List.mem_of_getElem? (i := 595) (by decide +kernel), List.mem_of_getElem? (i := 596) (by decide +kernel)⟩
theorem lw_p12 : lw_okq (⟨"SeptetCentre$Device", "pilePlace", "(JII)I"⟩, 10) := ⟨⟨by decide +kernel, by decide +kernel⟩, List.mem_of_getElem? (i := 88) (by decide +kernel), List.mem_of_getElem? (i := 604) (by decide +kernel), List.mem_of_getElem? (i := 605) (by decide +kernel)⟩
theorem lw_p13 : lw_okq (⟨"SeptetCentre", "lineOf", "(I)LSeptetCentre$Line;"⟩, 6) := ⟨⟨by decide +kernel, by decide +kernel⟩, List.mem_of_getElem? (i := 23) (by decide +kernel), List.mem_of_getElem? (i := 687) (by decide +kernel), List.mem_of_getElem? (i := 688) (by decide +kernel)⟩
theorem lw_p14 : lw_okq (⟨"SeptetCentreModel", "encode", "(I)Z"⟩, 41) := ⟨⟨by decide +kernel, by decide +kernel⟩, List.mem_of_getElem? (i := 719) (by decide +kernel), List.mem_of_getElem? (i := 878) (by decide +kernel), List.mem_of_getElem? (i := 879) (by decide +kernel)⟩
theorem lw_p15 : lw_okq (⟨"SeptetCentreModel", "partsOf", "()I"⟩, 41) := ⟨⟨by decide +kernel, by decide +kernel⟩, List.mem_of_getElem? (i := 719) (by decide +kernel), List.mem_of_getElem? (i := 891) (by decide +kernel), List.mem_of_getElem? (i := 892) (by decide +kernel)⟩
def lw_privs_1 : List (MethodName × Nat) := [(⟨"SeptetCentre", "deviceOf", "(I)LSeptetCentre$Device;"⟩, 6), (⟨"SeptetCentre", "sendUp", "(LSeptetCentre$Device;JIII)V"⟩, 6), (⟨"SeptetCentre$Row", "putDigits", "(JI)V"⟩, 3), (⟨"SeptetCentre$Row", "merge", "(II)V"⟩, 3), (⟨"java/util/ArrayList", "add", "(Ljava/lang/Object;[Ljava/lang/Object;I)V"⟩, 3), (⟨"java/util/ArrayList", "grow", "()[Ljava/lang/Object;"⟩, 3), (⟨"java/util/ArrayList", "grow", "(I)[Ljava/lang/Object;"⟩, 3), (⟨"java/util/ArrayList", "fastRemove", "([Ljava/lang/Object;I)V"⟩, 3), (⟨"SeptetCentre", "earliestPlace", "()I"⟩, 6), (⟨"SeptetCentre", "dealWith", "(LSeptetCentre$Message;I)V"⟩, 6), (⟨"SeptetCentre", "holderOf", "(J)LSeptetCentre$Device;"⟩, 6), (⟨"SeptetCentre$Device", "gather", "(LSeptetCentre$Row;J)I"⟩, 10), (⟨"SeptetCentre$Device", "pilePlace", "(JII)I"⟩, 10), (⟨"SeptetCentre", "lineOf", "(I)LSeptetCentre$Line;"⟩, 6), (⟨"SeptetCentreModel", "encode", "(I)Z"⟩, 41), (⟨"SeptetCentreModel", "partsOf", "()I"⟩, 41)]
theorem lw_r1 : ∀ q ∈ lw_privs_1, lw_okq q := List.forall_mem_cons.mpr ⟨lw_p0, List.forall_mem_cons.mpr ⟨lw_p1, List.forall_mem_cons.mpr ⟨lw_p2, List.forall_mem_cons.mpr ⟨lw_p3, List.forall_mem_cons.mpr ⟨lw_p4, List.forall_mem_cons.mpr ⟨lw_p5, List.forall_mem_cons.mpr ⟨lw_p6, List.forall_mem_cons.mpr ⟨lw_p7, List.forall_mem_cons.mpr ⟨lw_p8, List.forall_mem_cons.mpr ⟨lw_p9, List.forall_mem_cons.mpr ⟨lw_p10, List.forall_mem_cons.mpr ⟨lw_p11, List.forall_mem_cons.mpr ⟨lw_p12, List.forall_mem_cons.mpr ⟨lw_p13, List.forall_mem_cons.mpr ⟨lw_p14, List.forall_mem_cons.mpr ⟨lw_p15, fun _ h => absurd h List.not_mem_nil⟩⟩⟩⟩⟩⟩⟩⟩⟩⟩⟩⟩⟩⟩⟩⟩
theorem lw_p16 : lw_okq (⟨"SeptetCentreModel", "cut", "(I)I"⟩, 41) := ⟨⟨by decide +kernel, by decide +kernel⟩, List.mem_of_getElem? (i := 719) (by decide +kernel), List.mem_of_getElem? (i := 895) (by decide +kernel), List.mem_of_getElem? (i := 896) (by decide +kernel)⟩
theorem lw_p17 : lw_okq (⟨"SeptetCentreModel", "putSubmit", "(ZIJIIIIII)V"⟩, 41) := ⟨⟨by decide +kernel, by decide +kernel⟩, List.mem_of_getElem? (i := 719) (by decide +kernel), List.mem_of_getElem? (i := 899) (by decide +kernel), List.mem_of_getElem? (i := 900) (by decide +kernel)⟩
theorem lw_p18 : lw_okq (⟨"SeptetCentreModel", "put", "(I)V"⟩, 41) := ⟨⟨by decide +kernel, by decide +kernel⟩, List.mem_of_getElem? (i := 719) (by decide +kernel), List.mem_of_getElem? (i := 903) (by decide +kernel), List.mem_of_getElem? (i := 904) (by decide +kernel)⟩
theorem lw_p19 : lw_okq (⟨"SeptetCentreModel", "putAddress", "(J)V"⟩, 41) := ⟨⟨by decide +kernel, by decide +kernel⟩, List.mem_of_getElem? (i := 719) (by decide +kernel), List.mem_of_getElem? (i := 907) (by decide +kernel), List.mem_of_getElem? (i := 908) (by decide +kernel)⟩
theorem lw_p20 : lw_okq (⟨"SeptetCentreModel", "putDigits", "(JI)V"⟩, 41) := ⟨⟨by decide +kernel, by decide +kernel⟩, List.mem_of_getElem? (i := 719) (by decide +kernel), List.mem_of_getElem? (i := 915) (by decide +kernel), List.mem_of_getElem? (i := 916) (by decide +kernel)⟩
theorem lw_p21 : lw_okq (⟨"SeptetCentreModel", "putData", "(IIIII)V"⟩, 41) := ⟨⟨by decide +kernel, by decide +kernel⟩, List.mem_of_getElem? (i := 719) (by decide +kernel), List.mem_of_getElem? (i := 919) (by decide +kernel), List.mem_of_getElem? (i := 920) (by decide +kernel)⟩
theorem lw_p22 : lw_okq (⟨"SeptetCentreModel", "append", "(II)V"⟩, 41) := ⟨⟨by decide +kernel, by decide +kernel⟩, List.mem_of_getElem? (i := 719) (by decide +kernel), List.mem_of_getElem? (i := 926) (by decide +kernel), List.mem_of_getElem? (i := 927) (by decide +kernel)⟩
theorem lw_p23 : lw_okq (⟨"SeptetCentreModel", "load", "(I)V"⟩, 41) := ⟨⟨by decide +kernel, by decide +kernel⟩, List.mem_of_getElem? (i := 719) (by decide +kernel), List.mem_of_getElem? (i := 941) (by decide +kernel), List.mem_of_getElem? (i := 942) (by decide +kernel)⟩
theorem lw_p24 : lw_okq (⟨"SeptetCentreModel", "legal", "()I"⟩, 41) := ⟨⟨by decide +kernel, by decide +kernel⟩, List.mem_of_getElem? (i := 719) (by decide +kernel), List.mem_of_getElem? (i := 945) (by decide +kernel), List.mem_of_getElem? (i := 946) (by decide +kernel)⟩
theorem lw_p25 : lw_okq (⟨"SeptetCentreModel", "readNumber", "(I)J"⟩, 41) := ⟨⟨by decide +kernel, by decide +kernel⟩, List.mem_of_getElem? (i := 719) (by decide +kernel), List.mem_of_getElem? (i := 949) (by decide +kernel), List.mem_of_getElem? (i := 950) (by decide +kernel)⟩
theorem lw_p26 : lw_okq (⟨"SeptetCentreModel", "readSeptets", "(IZ)V"⟩, 41) := ⟨⟨by decide +kernel, by decide +kernel⟩, List.mem_of_getElem? (i := 719) (by decide +kernel), List.mem_of_getElem? (i := 953) (by decide +kernel), List.mem_of_getElem? (i := 954) (by decide +kernel)⟩
theorem lw_p27 : lw_okq (⟨"SeptetCentreModel", "bit", "(II)I"⟩, 41) := ⟨⟨by decide +kernel, by decide +kernel⟩, List.mem_of_getElem? (i := 719) (by decide +kernel), List.mem_of_getElem? (i := 957) (by decide +kernel), List.mem_of_getElem? (i := 958) (by decide +kernel)⟩
theorem lw_p28 : lw_okq (⟨"SeptetCentreModel", "areText", "()Z"⟩, 41) := ⟨⟨by decide +kernel, by decide +kernel⟩, List.mem_of_getElem? (i := 719) (by decide +kernel), List.mem_of_getElem? (i := 961) (by decide +kernel), List.mem_of_getElem? (i := 962) (by decide +kernel)⟩
theorem lw_p29 : lw_okq (⟨"SeptetCentreModel", "removeFirst", "(I)V"⟩, 41) := ⟨⟨by decide +kernel, by decide +kernel⟩, List.mem_of_getElem? (i := 719) (by decide +kernel), List.mem_of_getElem? (i := 965) (by decide +kernel), List.mem_of_getElem? (i := 966) (by decide +kernel)⟩
theorem lw_p30 : lw_okq (⟨"SeptetCentreModel", "move", "(II)V"⟩, 41) := ⟨⟨by decide +kernel, by decide +kernel⟩, List.mem_of_getElem? (i := 719) (by decide +kernel), List.mem_of_getElem? (i := 969) (by decide +kernel), List.mem_of_getElem? (i := 970) (by decide +kernel)⟩
theorem lw_p31 : lw_okq (⟨"SeptetCentreModel", "keepData", "(II)V"⟩, 41) := ⟨⟨by decide +kernel, by decide +kernel⟩, List.mem_of_getElem? (i := 719) (by decide +kernel), List.mem_of_getElem? (i := 973) (by decide +kernel), List.mem_of_getElem? (i := 974) (by decide +kernel)⟩
def lw_privs_2 : List (MethodName × Nat) := [(⟨"SeptetCentreModel", "cut", "(I)I"⟩, 41), (⟨"SeptetCentreModel", "putSubmit", "(ZIJIIIIII)V"⟩, 41), (⟨"SeptetCentreModel", "put", "(I)V"⟩, 41), (⟨"SeptetCentreModel", "putAddress", "(J)V"⟩, 41), (⟨"SeptetCentreModel", "putDigits", "(JI)V"⟩, 41), (⟨"SeptetCentreModel", "putData", "(IIIII)V"⟩, 41), (⟨"SeptetCentreModel", "append", "(II)V"⟩, 41), (⟨"SeptetCentreModel", "load", "(I)V"⟩, 41), (⟨"SeptetCentreModel", "legal", "()I"⟩, 41), (⟨"SeptetCentreModel", "readNumber", "(I)J"⟩, 41), (⟨"SeptetCentreModel", "readSeptets", "(IZ)V"⟩, 41), (⟨"SeptetCentreModel", "bit", "(II)I"⟩, 41), (⟨"SeptetCentreModel", "areText", "()Z"⟩, 41), (⟨"SeptetCentreModel", "removeFirst", "(I)V"⟩, 41), (⟨"SeptetCentreModel", "move", "(II)V"⟩, 41), (⟨"SeptetCentreModel", "keepData", "(II)V"⟩, 41)]
theorem lw_r2 : ∀ q ∈ lw_privs_2, lw_okq q := List.forall_mem_cons.mpr ⟨lw_p16, List.forall_mem_cons.mpr ⟨lw_p17, List.forall_mem_cons.mpr ⟨lw_p18, List.forall_mem_cons.mpr ⟨lw_p19, List.forall_mem_cons.mpr ⟨lw_p20, List.forall_mem_cons.mpr ⟨lw_p21, List.forall_mem_cons.mpr ⟨lw_p22, List.forall_mem_cons.mpr ⟨lw_p23, List.forall_mem_cons.mpr ⟨lw_p24, List.forall_mem_cons.mpr ⟨lw_p25, List.forall_mem_cons.mpr ⟨lw_p26, List.forall_mem_cons.mpr ⟨lw_p27, List.forall_mem_cons.mpr ⟨lw_p28, List.forall_mem_cons.mpr ⟨lw_p29, List.forall_mem_cons.mpr ⟨lw_p30, List.forall_mem_cons.mpr ⟨lw_p31, fun _ h => absurd h List.not_mem_nil⟩⟩⟩⟩⟩⟩⟩⟩⟩⟩⟩⟩⟩⟩⟩⟩
theorem lw_p32 : lw_okq (⟨"SeptetCentreModel", "earliest", "()I"⟩, 41) := ⟨⟨by decide +kernel, by decide +kernel⟩, List.mem_of_getElem? (i := 719) (by decide +kernel), List.mem_of_getElem? (i := 982) (by decide +kernel), List.mem_of_getElem? (i := 983) (by decide +kernel)⟩
theorem lw_p33 : lw_okq (⟨"SeptetCentreModel", "moment", "(I)I"⟩, 41) := ⟨⟨by decide +kernel, by decide +kernel⟩, List.mem_of_getElem? (i := 719) (by decide +kernel), List.mem_of_getElem? (i := 986) (by decide +kernel), List.mem_of_getElem? (i := 987) (by decide +kernel)⟩
theorem lw_p34 : lw_okq (⟨"SeptetCentreModel", "deal", "(I)Z"⟩, 41) := ⟨⟨by decide +kernel, by decide +kernel⟩, List.mem_of_getElem? (i := 719) (by decide +kernel), List.mem_of_getElem? (i := 990) (by decide +kernel), List.mem_of_getElem? (i := 991) (by decide +kernel)⟩
theorem lw_p35 : lw_okq (⟨"SeptetCentreModel", "settle", "(III)V"⟩, 41) := ⟨⟨by decide +kernel, by decide +kernel⟩, List.mem_of_getElem? (i := 719) (by decide +kernel), List.mem_of_getElem? (i := 994) (by decide +kernel), List.mem_of_getElem? (i := 995) (by decide +kernel)⟩
theorem lw_p36 : lw_okq (⟨"SeptetCentreModel", "owner", "(J)I"⟩, 41) := ⟨⟨by decide +kernel, by decide +kernel⟩, List.mem_of_getElem? (i := 719) (by decide +kernel), List.mem_of_getElem? (i := 998) (by decide +kernel), List.mem_of_getElem? (i := 999) (by decide +kernel)⟩
theorem lw_p37 : lw_okq (⟨"SeptetCentreModel", "deliver", "(II)V"⟩, 41) := ⟨⟨by decide +kernel, by decide +kernel⟩, List.mem_of_getElem? (i := 719) (by decide +kernel), List.mem_of_getElem? (i := 1002) (by decide +kernel), List.mem_of_getElem? (i := 1003) (by decide +kernel)⟩
theorem lw_p38 : lw_okq (⟨"SeptetCentreModel", "decode", "(IZ)I"⟩, 41) := ⟨⟨by decide +kernel, by decide +kernel⟩, List.mem_of_getElem? (i := 719) (by decide +kernel), List.mem_of_getElem? (i := 1010) (by decide +kernel), List.mem_of_getElem? (i := 1011) (by decide +kernel)⟩
theorem lw_p39 : lw_okq (⟨"SeptetCentreModel", "pileFor", "(IJII)I"⟩, 41) := ⟨⟨by decide +kernel, by decide +kernel⟩, List.mem_of_getElem? (i := 719) (by decide +kernel), List.mem_of_getElem? (i := 1014) (by decide +kernel), List.mem_of_getElem? (i := 1015) (by decide +kernel)⟩
theorem lw_p40 : lw_okq (⟨"SeptetCentreModel", "dropPile", "(II)V"⟩, 41) := ⟨⟨by decide +kernel, by decide +kernel⟩, List.mem_of_getElem? (i := 719) (by decide +kernel), List.mem_of_getElem? (i := 1018) (by decide +kernel), List.mem_of_getElem? (i := 1019) (by decide +kernel)⟩
theorem lw_p41 : lw_okq (⟨"SeptetCentreModel", "movePile", "(II)V"⟩, 41) := ⟨⟨by decide +kernel, by decide +kernel⟩, List.mem_of_getElem? (i := 719) (by decide +kernel), List.mem_of_getElem? (i := 1022) (by decide +kernel), List.mem_of_getElem? (i := 1023) (by decide +kernel)⟩
theorem lw_p42 : lw_okq (⟨"SeptetCentreModel", "together", "(II)V"⟩, 41) := ⟨⟨by decide +kernel, by decide +kernel⟩, List.mem_of_getElem? (i := 719) (by decide +kernel), List.mem_of_getElem? (i := 1026) (by decide +kernel), List.mem_of_getElem? (i := 1027) (by decide +kernel)⟩
def lw_privs_3 : List (MethodName × Nat) := [(⟨"SeptetCentreModel", "earliest", "()I"⟩, 41), (⟨"SeptetCentreModel", "moment", "(I)I"⟩, 41), (⟨"SeptetCentreModel", "deal", "(I)Z"⟩, 41), (⟨"SeptetCentreModel", "settle", "(III)V"⟩, 41), (⟨"SeptetCentreModel", "owner", "(J)I"⟩, 41), (⟨"SeptetCentreModel", "deliver", "(II)V"⟩, 41), (⟨"SeptetCentreModel", "decode", "(IZ)I"⟩, 41), (⟨"SeptetCentreModel", "pileFor", "(IJII)I"⟩, 41), (⟨"SeptetCentreModel", "dropPile", "(II)V"⟩, 41), (⟨"SeptetCentreModel", "movePile", "(II)V"⟩, 41), (⟨"SeptetCentreModel", "together", "(II)V"⟩, 41)]
theorem lw_r3 : ∀ q ∈ lw_privs_3, lw_okq q := List.forall_mem_cons.mpr ⟨lw_p32, List.forall_mem_cons.mpr ⟨lw_p33, List.forall_mem_cons.mpr ⟨lw_p34, List.forall_mem_cons.mpr ⟨lw_p35, List.forall_mem_cons.mpr ⟨lw_p36, List.forall_mem_cons.mpr ⟨lw_p37, List.forall_mem_cons.mpr ⟨lw_p38, List.forall_mem_cons.mpr ⟨lw_p39, List.forall_mem_cons.mpr ⟨lw_p40, List.forall_mem_cons.mpr ⟨lw_p41, List.forall_mem_cons.mpr ⟨lw_p42, fun _ h => absurd h List.not_mem_nil⟩⟩⟩⟩⟩⟩⟩⟩⟩⟩⟩
def lw_privs : List (MethodName × Nat) := lw_privs_1 ++ (lw_privs_2 ++ (lw_privs_3))
def lw_tbl : List Cond := k2_sels lw_privs ++ tables_1
theorem lw_privs_ok : ∀ q ∈ lw_privs, lw_okq q := by
  show ∀ q ∈ lw_privs_1 ++ (lw_privs_2 ++ (lw_privs_3)), lw_okq q
  exact List.forall_mem_append.mpr ⟨lw_r1, List.forall_mem_append.mpr ⟨lw_r2, lw_r3⟩⟩
end
section
def zT0 : u_T := fun k => match k with
  | 0 => ("SeptetCentre", "devices", "[LSeptetCentre$Device;", true)
  | 1 => ("SeptetCentre", "uplink", "LSeptetCentre$Line;", true)
  | 2 => ("SeptetCentre", "draft", "LSeptetCentre$Draft;", true)
  | 3 => ("SeptetCentre", "messages", "Ljava/util/ArrayList;", true)
  | 4 => ("SeptetCentre", "pending", "Ljava/util/ArrayList;", true)
  | _ => ("SeptetCentre", "now", "I", false)
def zT1 : u_T := fun k => match k with
  | 0 => ("SeptetCentre$Line", "rows", "Ljava/util/ArrayList;", true)
  | _ => ("SeptetCentre$Line", "most", "I", true)
def zT2 : u_T := fun k => match k with
  | 0 => ("java/util/ArrayList", "elementData", "[Ljava/lang/Object;", false)
  | 1 => ("java/util/ArrayList", "size", "I", false)
  | _ => ("java/util/AbstractList", "modCount", "I", false)
def zT3 : u_T := fun k => match k with
  | 0 => ("SeptetCentre$Draft", "forms", "[I", true)
  | _ => ("SeptetCentre$Draft", "length", "I", false)
def zT4 : u_T := fun k => match k with
  | 0 => ("SeptetCentre$Device", "number", "J", false)
  | 1 => ("SeptetCentre$Device", "on", "Z", false)
  | 2 => ("SeptetCentre$Device", "inbox", "LSeptetCentre$Line;", true)
  | 3 => ("SeptetCentre$Device", "reports", "LSeptetCentre$Line;", true)
  | 4 => ("SeptetCentre$Device", "references", "I", false)
  | 5 => ("SeptetCentre$Device", "messageNumbers", "I", false)
  | 6 => ("SeptetCentre$Device", "piles", "Ljava/util/ArrayList;", true)
  | 7 => ("SeptetCentre$Device", "lastText", "[I", true)
  | 8 => ("SeptetCentre$Device", "lastLength", "I", false)
  | _ => ("SeptetCentre$Device", "lastSender", "J", false)
def zT5 : u_T := fun k => match k with
  | 0 => ("SeptetCentre$Row", "bytes", "[I", true)
  | 1 => ("SeptetCentre$Row", "written", "I", false)
  | _ => ("SeptetCentre$Row", "origin", "LSeptetCentre$Device;", true)
def zT6 : u_T := fun k => match k with
  | 0 => ("SeptetCentre$Message", "submit", "LSeptetCentre$Row;", true)
  | 1 => ("SeptetCentre$Message", "origin", "LSeptetCentre$Device;", true)
  | 2 => ("SeptetCentre$Message", "from", "J", true)
  | 3 => ("SeptetCentre$Message", "accepted", "I", true)
  | 4 => ("SeptetCentre$Message", "next", "I", false)
  | 5 => ("SeptetCentre$Message", "to", "J", true)
  | 6 => ("SeptetCentre$Message", "tooOld", "I", true)
  | 7 => ("SeptetCentre$Message", "offered", "I", false)
  | _ => ("SeptetCentre$Message", "fate", "LSeptetCentre$Fate;", false)
def zT7 : u_T := fun k => match k with
  | 0 => ("SeptetCentre$Pile", "from", "J", true)
  | 1 => ("SeptetCentre$Pile", "reference", "I", true)
  | 2 => ("SeptetCentre$Pile", "parts", "[LSeptetCentre$Row;", true)
  | _ => ("SeptetCentre$Pile", "lacking", "I", false)
def zT8 : u_T := fun k => match k with
  | 0 => ("SeptetCentreModel", "drafted", "I", false)
  | 1 => ("SeptetCentreModel", "draft", "[I", false)
  | 2 => ("SeptetCentreModel", "septets", "I", false)
  | 3 => ("SeptetCentreModel", "septet", "[I", false)
  | 4 => ("SeptetCentreModel", "numbers", "[J", false)
  | 5 => ("SeptetCentreModel", "on", "[Z", false)
  | 6 => ("SeptetCentreModel", "messageCount", "[I", false)
  | 7 => ("SeptetCentreModel", "referenceCount", "[I", false)
  | 8 => ("SeptetCentreModel", "textLength", "[I", false)
  | 9 => ("SeptetCentreModel", "text", "[I", false)
  | 10 => ("SeptetCentreModel", "textSender", "[J", false)
  | 11 => ("SeptetCentreModel", "length", "I", false)
  | 12 => ("SeptetCentreModel", "row", "[I", false)
  | 13 => ("SeptetCentreModel", "rows", "[I", false)
  | 14 => ("SeptetCentreModel", "rowLength", "[I", false)
  | 15 => ("SeptetCentreModel", "rowFrom", "[I", false)
  | 16 => ("SeptetCentreModel", "many", "[I", false)
  | 17 => ("SeptetCentreModel", "messages", "I", false)
  | 18 => ("SeptetCentreModel", "waits", "I", false)
  | 19 => ("SeptetCentreModel", "time", "I", false)
  | 20 => ("SeptetCentreModel", "from", "[I", false)
  | 21 => ("SeptetCentreModel", "ownNumber", "[I", false)
  | 22 => ("SeptetCentreModel", "sender", "[J", false)
  | 23 => ("SeptetCentreModel", "receiver", "[J", false)
  | 24 => ("SeptetCentreModel", "wanted", "[Z", false)
  | 25 => ("SeptetCentreModel", "headed", "[Z", false)
  | 26 => ("SeptetCentreModel", "accepted", "[I", false)
  | 27 => ("SeptetCentreModel", "old", "[I", false)
  | 28 => ("SeptetCentreModel", "due", "[I", false)
  | 29 => ("SeptetCentreModel", "offered", "[I", false)
  | 30 => ("SeptetCentreModel", "state", "[I", false)
  | 31 => ("SeptetCentreModel", "place", "[I", false)
  | 32 => ("SeptetCentreModel", "taken", "[Z", false)
  | 33 => ("SeptetCentreModel", "dataLength", "[I", false)
  | 34 => ("SeptetCentreModel", "data", "[I", false)
  | 35 => ("SeptetCentreModel", "pileSender", "[J", false)
  | 36 => ("SeptetCentreModel", "pileReference", "[I", false)
  | 37 => ("SeptetCentreModel", "pileParts", "[I", false)
  | 38 => ("SeptetCentreModel", "piles", "[I", false)
  | 39 => ("SeptetCentreModel", "partLength", "[I", false)
  | _ => ("SeptetCentreModel", "part", "[I", false)
def zCL : List vw_C := [("SeptetCentre", zT0, 6), ("SeptetCentre$Line", zT1, 2), ("java/util/ArrayList", zT2, 3), ("SeptetCentre$Draft", zT3, 2), ("SeptetCentre$Device", zT4, 10), ("SeptetCentre$Row", zT5, 3), ("SeptetCentre$Message", zT6, 9), ("SeptetCentre$Pile", zT7, 4), ("SeptetCentreModel", zT8, 41)]
theorem zw0 : ∀ w ∈ u_ws "SeptetCentre" zT0 6, w ∈ lw_tbl := by decide +kernel
theorem zn0 : ∀ a, a < 6 → ∀ b, b < 6 → a ≠ b → (zT0 a).2.1 ≠ (zT0 b).2.1 := by decide +kernel
theorem zw1 : ∀ w ∈ u_ws "SeptetCentre$Line" zT1 2, w ∈ lw_tbl := by decide +kernel
theorem zn1 : ∀ a, a < 2 → ∀ b, b < 2 → a ≠ b → (zT1 a).2.1 ≠ (zT1 b).2.1 := by decide +kernel
theorem zw2 : ∀ w ∈ u_ws "java/util/ArrayList" zT2 3, w ∈ lw_tbl := by decide +kernel
theorem zn2 : ∀ a, a < 3 → ∀ b, b < 3 → a ≠ b → (zT2 a).2.1 ≠ (zT2 b).2.1 := by decide +kernel
theorem zw3 : ∀ w ∈ u_ws "SeptetCentre$Draft" zT3 2, w ∈ lw_tbl := by decide +kernel
theorem zn3 : ∀ a, a < 2 → ∀ b, b < 2 → a ≠ b → (zT3 a).2.1 ≠ (zT3 b).2.1 := by decide +kernel
theorem zw4 : ∀ w ∈ u_ws "SeptetCentre$Device" zT4 10, w ∈ lw_tbl := by decide +kernel
theorem zn4 : ∀ a, a < 10 → ∀ b, b < 10 → a ≠ b → (zT4 a).2.1 ≠ (zT4 b).2.1 := by decide +kernel
theorem zw5 : ∀ w ∈ u_ws "SeptetCentre$Row" zT5 3, w ∈ lw_tbl := by decide +kernel
theorem zn5 : ∀ a, a < 3 → ∀ b, b < 3 → a ≠ b → (zT5 a).2.1 ≠ (zT5 b).2.1 := by decide +kernel
theorem zw6 : ∀ w ∈ u_ws "SeptetCentre$Message" zT6 9, w ∈ lw_tbl := by decide +kernel
theorem zn6 : ∀ a, a < 9 → ∀ b, b < 9 → a ≠ b → (zT6 a).2.1 ≠ (zT6 b).2.1 := by decide +kernel
theorem zw7 : ∀ w ∈ u_ws "SeptetCentre$Pile" zT7 4, w ∈ lw_tbl := by decide +kernel
theorem zn7 : ∀ a, a < 4 → ∀ b, b < 4 → a ≠ b → (zT7 a).2.1 ≠ (zT7 b).2.1 := by decide +kernel
theorem zw8 : ∀ w ∈ u_ws "SeptetCentreModel" zT8 41, w ∈ lw_tbl := by decide +kernel
theorem zn8 : ∀ a, a < 41 → ∀ b, b < 41 → a ≠ b → (zT8 a).2.1 ≠ (zT8 b).2.1 := by decide +kernel
abbrev MM : Type := ByteArray × Nat × Option FieldType × MethodName
def M_SC_init : MM := (prog_1_method_1_code, 2, none, ⟨"SeptetCentre", "<init>", "()V"⟩)
def M_SC_register : MM := (prog_1_method_2_code, 5, (some FieldType.boolean), ⟨"SeptetCentre", "register", "(IJ)Z"⟩)
def M_SC_power : MM := (prog_1_method_3_code, 4, (some FieldType.boolean), ⟨"SeptetCentre", "power", "(IZ)Z"⟩)
def M_SC_type : MM := (prog_1_method_4_code, 3, (some FieldType.boolean), ⟨"SeptetCentre", "type", "(CI)Z"⟩)
def M_SC_wipe : MM := (prog_1_method_5_code, 1, none, ⟨"SeptetCentre", "wipe", "()V"⟩)
def M_SC_send : MM := (prog_1_method_6_code, 9, (some FieldType.int), ⟨"SeptetCentre", "send", "(IJIZ)I"⟩)
def M_SC_alter : MM := (prog_1_method_7_code, 4, (some FieldType.boolean), ⟨"SeptetCentre", "alter", "(II)Z"⟩)
def M_SC_receive : MM := (prog_1_method_8_code, 4, (some FieldType.int), ⟨"SeptetCentre", "receive", "()I"⟩)
def M_SC_advance : MM := (prog_1_method_9_code, 8, (some FieldType.int), ⟨"SeptetCentre", "advance", "(I)I"⟩)
def M_SC_take : MM := (prog_1_method_10_code, 4, (some FieldType.int), ⟨"SeptetCentre", "take", "(I)I"⟩)
def M_SC_copy : MM := (prog_1_method_11_code, 4, (some FieldType.boolean), ⟨"SeptetCentre", "copy", "(I)Z"⟩)
def M_SC_swap : MM := (prog_1_method_12_code, 3, (some FieldType.boolean), ⟨"SeptetCentre", "swap", "(I)Z"⟩)
def M_SC_report : MM := (prog_1_method_13_code, 4, (some FieldType.int), ⟨"SeptetCentre", "report", "(I)I"⟩)
def M_SC_waiting : MM := (prog_1_method_14_code, 3, (some FieldType.int), ⟨"SeptetCentre", "waiting", "(I)I"⟩)
def M_SC_byteAt : MM := (prog_1_method_15_code, 5, (some FieldType.int), ⟨"SeptetCentre", "byteAt", "(II)I"⟩)
def M_SC_text : MM := (prog_1_method_16_code, 4, (some FieldType.int), ⟨"SeptetCentre", "text", "(II)I"⟩)
def M_SC_sender : MM := (prog_1_method_17_code, 3, (some FieldType.long), ⟨"SeptetCentre", "sender", "(I)J"⟩)
def M_SC_state : MM := (prog_1_method_18_code, 2, (some FieldType.int), ⟨"SeptetCentre", "state", "(I)I"⟩)
def M_SC_offers : MM := (prog_1_method_19_code, 2, (some FieldType.int), ⟨"SeptetCentre", "offers", "(I)I"⟩)
def M_SC_time : MM := (prog_1_method_20_code, 1, (some FieldType.int), ⟨"SeptetCentre", "time", "()I"⟩)
def M_SC_isNumber : MM := (prog_1_method_21_code, 2, (some FieldType.boolean), ⟨"SeptetCentre", "isNumber", "(J)Z"⟩)
def M_SC_deviceOf : MM := (prog_1_method_22_code, 2, (some (FieldType.object "SeptetCentre$Device")), ⟨"SeptetCentre", "deviceOf", "(I)LSeptetCentre$Device;"⟩)
def M_SC_lineOf : MM := (prog_1_method_23_code, 3, (some (FieldType.object "SeptetCentre$Line")), ⟨"SeptetCentre", "lineOf", "(I)LSeptetCentre$Line;"⟩)
def M_SC_sendUp : MM := (prog_1_method_24_code, 12, none, ⟨"SeptetCentre", "sendUp", "(LSeptetCentre$Device;JIII)V"⟩)
def M_SC_earliestPlace : MM := (prog_1_method_25_code, 3, (some FieldType.int), ⟨"SeptetCentre", "earliestPlace", "()I"⟩)
def M_SC_dealWith : MM := (prog_1_method_26_code, 4, none, ⟨"SeptetCentre", "dealWith", "(LSeptetCentre$Message;I)V"⟩)
def M_SC_holderOf : MM := (prog_1_method_27_code, 4, (some (FieldType.object "SeptetCentre$Device")), ⟨"SeptetCentre", "holderOf", "(J)LSeptetCentre$Device;"⟩)
def M_MO_init : MM := (prog_12_method_1_code, 1, none, ⟨"SeptetCentreModel", "<init>", "()V"⟩)
def M_MO_plain : MM := (prog_12_method_2_code, 1, (some FieldType.int), ⟨"SeptetCentreModel", "plain", "(I)I"⟩)
def M_MO_upper : MM := (prog_12_method_3_code, 1, (some FieldType.int), ⟨"SeptetCentreModel", "upper", "(I)I"⟩)
def M_MO_escaped : MM := (prog_12_method_4_code, 1, (some FieldType.int), ⟨"SeptetCentreModel", "escaped", "(I)I"⟩)
def M_MO_encode : MM := (prog_12_method_5_code, 3, (some FieldType.boolean), ⟨"SeptetCentreModel", "encode", "(I)Z"⟩)
def M_MO_put : MM := (prog_12_method_6_code, 2, none, ⟨"SeptetCentreModel", "put", "(I)V"⟩)
def M_MO_power : MM := (prog_12_method_7_code, 4, (some FieldType.long), ⟨"SeptetCentreModel", "power", "(I)J"⟩)
def M_MO_putDigits : MM := (prog_12_method_8_code, 7, none, ⟨"SeptetCentreModel", "putDigits", "(JI)V"⟩)
def M_MO_putAddress : MM := (prog_12_method_9_code, 4, none, ⟨"SeptetCentreModel", "putAddress", "(J)V"⟩)
def M_MO_bytesFor : MM := (prog_12_method_10_code, 1, (some FieldType.int), ⟨"SeptetCentreModel", "bytesFor", "(I)I"⟩)
def M_MO_putData : MM := (prog_12_method_11_code, 12, none, ⟨"SeptetCentreModel", "putData", "(IIIII)V"⟩)
def M_MO_putSubmit : MM := (prog_12_method_12_code, 11, none, ⟨"SeptetCentreModel", "putSubmit", "(ZIJIIIIII)V"⟩)
def M_MO_baseOf : MM := (prog_12_method_13_code, 1, (some FieldType.int), ⟨"SeptetCentreModel", "baseOf", "(I)I"⟩)
def M_MO_append : MM := (prog_12_method_14_code, 5, none, ⟨"SeptetCentreModel", "append", "(II)V"⟩)
def M_MO_load : MM := (prog_12_method_15_code, 3, none, ⟨"SeptetCentreModel", "load", "(I)V"⟩)
def M_MO_move : MM := (prog_12_method_16_code, 4, none, ⟨"SeptetCentreModel", "move", "(II)V"⟩)
def M_MO_removeFirst : MM := (prog_12_method_17_code, 4, none, ⟨"SeptetCentreModel", "removeFirst", "(I)V"⟩)
def M_MO_bit : MM := (prog_12_method_18_code, 3, (some FieldType.int), ⟨"SeptetCentreModel", "bit", "(II)I"⟩)
def M_MO_readSeptets : MM := (prog_12_method_19_code, 6, none, ⟨"SeptetCentreModel", "readSeptets", "(IZ)V"⟩)
def M_MO_areText : MM := (prog_12_method_20_code, 3, (some FieldType.boolean), ⟨"SeptetCentreModel", "areText", "()Z"⟩)
def M_MO_readNumber : MM := (prog_12_method_21_code, 6, (some FieldType.long), ⟨"SeptetCentreModel", "readNumber", "(I)J"⟩)
def M_MO_legal : MM := (prog_12_method_22_code, 10, (some FieldType.int), ⟨"SeptetCentreModel", "legal", "()I"⟩)
def M_MO_isDevice : MM := (prog_12_method_23_code, 1, (some FieldType.boolean), ⟨"SeptetCentreModel", "isDevice", "(I)Z"⟩)
def M_MO_isNumber : MM := (prog_12_method_24_code, 2, (some FieldType.boolean), ⟨"SeptetCentreModel", "isNumber", "(J)Z"⟩)
def M_MO_register : MM := (prog_12_method_25_code, 4, (some FieldType.boolean), ⟨"SeptetCentreModel", "register", "(IJ)Z"⟩)
def M_MO_power1 : MM := (prog_12_method_26_code, 3, (some FieldType.boolean), ⟨"SeptetCentreModel", "power", "(IZ)Z"⟩)
def M_MO_type : MM := (prog_12_method_27_code, 4, (some FieldType.boolean), ⟨"SeptetCentreModel", "type", "(CI)Z"⟩)
def M_MO_wipe : MM := (prog_12_method_28_code, 1, none, ⟨"SeptetCentreModel", "wipe", "()V"⟩)
def M_MO_cut : MM := (prog_12_method_29_code, 4, (some FieldType.int), ⟨"SeptetCentreModel", "cut", "(I)I"⟩)
def M_MO_partsOf : MM := (prog_12_method_30_code, 3, (some FieldType.int), ⟨"SeptetCentreModel", "partsOf", "()I"⟩)
def M_MO_send : MM := (prog_12_method_31_code, 10, (some FieldType.int), ⟨"SeptetCentreModel", "send", "(IJIZ)I"⟩)
def M_MO_alter : MM := (prog_12_method_32_code, 3, (some FieldType.boolean), ⟨"SeptetCentreModel", "alter", "(II)Z"⟩)
def M_MO_receive : MM := (prog_12_method_33_code, 4, (some FieldType.int), ⟨"SeptetCentreModel", "receive", "()I"⟩)
def M_MO_keepData : MM := (prog_12_method_34_code, 5, none, ⟨"SeptetCentreModel", "keepData", "(II)V"⟩)
def M_MO_owner : MM := (prog_12_method_35_code, 4, (some FieldType.int), ⟨"SeptetCentreModel", "owner", "(J)I"⟩)
def M_MO_moment : MM := (prog_12_method_36_code, 2, (some FieldType.int), ⟨"SeptetCentreModel", "moment", "(I)I"⟩)
def M_MO_earliest : MM := (prog_12_method_37_code, 3, (some FieldType.int), ⟨"SeptetCentreModel", "earliest", "()I"⟩)
def M_MO_settle : MM := (prog_12_method_38_code, 5, none, ⟨"SeptetCentreModel", "settle", "(III)V"⟩)
def M_MO_deliver : MM := (prog_12_method_39_code, 4, none, ⟨"SeptetCentreModel", "deliver", "(II)V"⟩)
def M_MO_deal : MM := (prog_12_method_40_code, 4, (some FieldType.boolean), ⟨"SeptetCentreModel", "deal", "(I)Z"⟩)
def M_MO_advance : MM := (prog_12_method_41_code, 4, (some FieldType.int), ⟨"SeptetCentreModel", "advance", "(I)I"⟩)
def M_MO_decode : MM := (prog_12_method_42_code, 6, (some FieldType.int), ⟨"SeptetCentreModel", "decode", "(IZ)I"⟩)
def M_MO_movePile : MM := (prog_12_method_43_code, 4, none, ⟨"SeptetCentreModel", "movePile", "(II)V"⟩)
def M_MO_dropPile : MM := (prog_12_method_44_code, 4, none, ⟨"SeptetCentreModel", "dropPile", "(II)V"⟩)
def M_MO_pileFor : MM := (prog_12_method_45_code, 8, (some FieldType.int), ⟨"SeptetCentreModel", "pileFor", "(IJII)I"⟩)
def M_MO_together : MM := (prog_12_method_46_code, 6, none, ⟨"SeptetCentreModel", "together", "(II)V"⟩)
def M_MO_take : MM := (prog_12_method_47_code, 11, (some FieldType.int), ⟨"SeptetCentreModel", "take", "(I)I"⟩)
def M_MO_copy : MM := (prog_12_method_48_code, 2, (some FieldType.boolean), ⟨"SeptetCentreModel", "copy", "(I)Z"⟩)
def M_MO_swap : MM := (prog_12_method_49_code, 4, (some FieldType.boolean), ⟨"SeptetCentreModel", "swap", "(I)Z"⟩)
def M_MO_report : MM := (prog_12_method_50_code, 2, (some FieldType.int), ⟨"SeptetCentreModel", "report", "(I)I"⟩)
def M_MO_waiting : MM := (prog_12_method_51_code, 2, (some FieldType.int), ⟨"SeptetCentreModel", "waiting", "(I)I"⟩)
def M_MO_byteAt : MM := (prog_12_method_52_code, 4, (some FieldType.int), ⟨"SeptetCentreModel", "byteAt", "(II)I"⟩)
def M_MO_text : MM := (prog_12_method_53_code, 3, (some FieldType.int), ⟨"SeptetCentreModel", "text", "(II)I"⟩)
def M_MO_sender : MM := (prog_12_method_54_code, 2, (some FieldType.long), ⟨"SeptetCentreModel", "sender", "(I)J"⟩)
def M_MO_state : MM := (prog_12_method_55_code, 2, (some FieldType.int), ⟨"SeptetCentreModel", "state", "(I)I"⟩)
def M_MO_offers : MM := (prog_12_method_56_code, 2, (some FieldType.int), ⟨"SeptetCentreModel", "offers", "(I)I"⟩)
def M_MO_time : MM := (prog_12_method_57_code, 1, (some FieldType.int), ⟨"SeptetCentreModel", "time", "()I"⟩)
def M_Al_formOf : MM := (prog_2_method_2_code, 2, (some FieldType.int), ⟨"SeptetCentre$Alphabet", "formOf", "(C)I"⟩)
def M_Al_septetsOf : MM := (prog_2_method_3_code, 1, (some FieldType.int), ⟨"SeptetCentre$Alphabet", "septetsOf", "(I)I"⟩)
def M_Al_plain : MM := (prog_2_method_4_code, 1, (some FieldType.int), ⟨"SeptetCentre$Alphabet", "plain", "(I)I"⟩)
def M_Al_second : MM := (prog_2_method_5_code, 2, (some FieldType.int), ⟨"SeptetCentre$Alphabet", "second", "(I)I"⟩)
def M_De_init : MM := (prog_3_method_1_code, 1, none, ⟨"SeptetCentre$Device", "<init>", "()V"⟩)
def M_De_nextMessageNumber : MM := (prog_3_method_2_code, 2, (some FieldType.int), ⟨"SeptetCentre$Device", "nextMessageNumber", "()I"⟩)
def M_De_countReference : MM := (prog_3_method_3_code, 1, none, ⟨"SeptetCentre$Device", "countReference", "()V"⟩)
def M_De_read : MM := (prog_3_method_4_code, 4, (some FieldType.int), ⟨"SeptetCentre$Device", "read", "(LSeptetCentre$Row;)I"⟩)
def M_De_gather : MM := (prog_3_method_5_code, 7, (some FieldType.int), ⟨"SeptetCentre$Device", "gather", "(LSeptetCentre$Row;J)I"⟩)
def M_De_pilePlace : MM := (prog_3_method_6_code, 6, (some FieldType.int), ⟨"SeptetCentre$Device", "pilePlace", "(JII)I"⟩)
def M_Dr_init : MM := (prog_4_method_1_code, 1, none, ⟨"SeptetCentre$Draft", "<init>", "()V"⟩)
def M_Dr_room : MM := (prog_4_method_2_code, 1, (some FieldType.int), ⟨"SeptetCentre$Draft", "room", "()I"⟩)
def M_Dr_append : MM := (prog_4_method_3_code, 4, none, ⟨"SeptetCentre$Draft", "append", "(II)V"⟩)
def M_Dr_hasAlien : MM := (prog_4_method_4_code, 2, (some FieldType.boolean), ⟨"SeptetCentre$Draft", "hasAlien", "()Z"⟩)
def M_Dr_septets : MM := (prog_4_method_5_code, 5, (some FieldType.int), ⟨"SeptetCentre$Draft", "septets", "(II)I"⟩)
def M_Dr_partCount : MM := (prog_4_method_6_code, 5, (some FieldType.int), ⟨"SeptetCentre$Draft", "partCount", "()I"⟩)
def M_Dr_partEnd : MM := (prog_4_method_7_code, 4, (some FieldType.int), ⟨"SeptetCentre$Draft", "partEnd", "(I)I"⟩)
def M_Dr_pack : MM := (prog_4_method_8_code, 8, none, ⟨"SeptetCentre$Draft", "pack", "(IILSeptetCentre$Row;)V"⟩)
def M_Li_init : MM := (prog_6_method_1_code, 2, none, ⟨"SeptetCentre$Line", "<init>", "(I)V"⟩)
def M_Li_size : MM := (prog_6_method_2_code, 1, (some FieldType.int), ⟨"SeptetCentre$Line", "size", "()I"⟩)
def M_Li_room : MM := (prog_6_method_3_code, 1, (some FieldType.int), ⟨"SeptetCentre$Line", "room", "()I"⟩)
def M_Li_append : MM := (prog_6_method_4_code, 2, none, ⟨"SeptetCentre$Line", "append", "(LSeptetCentre$Row;)V"⟩)
def M_Li_first : MM := (prog_6_method_5_code, 1, (some (FieldType.object "SeptetCentre$Row")), ⟨"SeptetCentre$Line", "first", "()LSeptetCentre$Row;"⟩)
def M_Li_removeFirst : MM := (prog_6_method_6_code, 1, (some (FieldType.object "SeptetCentre$Row")), ⟨"SeptetCentre$Line", "removeFirst", "()LSeptetCentre$Row;"⟩)
def M_Li_exchangeFirstTwo : MM := (prog_6_method_7_code, 2, (some FieldType.boolean), ⟨"SeptetCentre$Line", "exchangeFirstTwo", "()Z"⟩)
def M_Me_init : MM := (prog_7_method_1_code, 4, none, ⟨"SeptetCentre$Message", "<init>", "(LSeptetCentre$Row;LSeptetCentre$Device;I)V"⟩)
def M_Me_moment : MM := (prog_7_method_2_code, 1, (some FieldType.int), ⟨"SeptetCentre$Message", "moment", "()I"⟩)
def M_Me_putOff : MM := (prog_7_method_3_code, 2, none, ⟨"SeptetCentre$Message", "putOff", "(I)V"⟩)
def M_Me_asDeliver : MM := (prog_7_method_4_code, 3, (some (FieldType.object "SeptetCentre$Row")), ⟨"SeptetCentre$Message", "asDeliver", "()LSeptetCentre$Row;"⟩)
def M_Me_fileReport : MM := (prog_7_method_5_code, 3, none, ⟨"SeptetCentre$Message", "fileReport", "(I)V"⟩)
def M_Pi_init : MM := (prog_8_method_1_code, 5, none, ⟨"SeptetCentre$Pile", "<init>", "(JII)V"⟩)
def M_Pi_gathers : MM := (prog_8_method_2_code, 5, (some FieldType.boolean), ⟨"SeptetCentre$Pile", "gathers", "(JII)Z"⟩)
def M_Pi_keep : MM := (prog_8_method_3_code, 4, none, ⟨"SeptetCentre$Pile", "keep", "(ILSeptetCentre$Row;)V"⟩)
def M_Pi_lacking : MM := (prog_8_method_4_code, 1, (some FieldType.int), ⟨"SeptetCentre$Pile", "lacking", "()I"⟩)
def M_Pi_readText : MM := (prog_8_method_5_code, 4, (some FieldType.int), ⟨"SeptetCentre$Pile", "readText", "([I)I"⟩)
def M_Ro_init : MM := (prog_9_method_1_code, 3, none, ⟨"SeptetCentre$Row", "<init>", "(ILSeptetCentre$Device;)V"⟩)
def M_Ro_digitsOf : MM := (prog_9_method_2_code, 5, (some FieldType.int), ⟨"SeptetCentre$Row", "digitsOf", "(J)I"⟩)
def M_Ro_addressSize : MM := (prog_9_method_3_code, 1, (some FieldType.int), ⟨"SeptetCentre$Row", "addressSize", "(I)I"⟩)
def M_Ro_dataSize : MM := (prog_9_method_4_code, 1, (some FieldType.int), ⟨"SeptetCentre$Row", "dataSize", "(I)I"⟩)
def M_Ro_submitSize : MM := (prog_9_method_5_code, 3, (some FieldType.int), ⟨"SeptetCentre$Row", "submitSize", "(JI)I"⟩)
def M_Ro_deliverSize : MM := (prog_9_method_6_code, 3, (some FieldType.int), ⟨"SeptetCentre$Row", "deliverSize", "(JI)I"⟩)
def M_Ro_reportSize : MM := (prog_9_method_7_code, 2, (some FieldType.int), ⟨"SeptetCentre$Row", "reportSize", "(J)I"⟩)
def M_Ro_size : MM := (prog_9_method_8_code, 1, (some FieldType.int), ⟨"SeptetCentre$Row", "size", "()I"⟩)
def M_Ro_has : MM := (prog_9_method_9_code, 2, (some FieldType.boolean), ⟨"SeptetCentre$Row", "has", "(I)Z"⟩)
def M_Ro_at : MM := (prog_9_method_10_code, 2, (some FieldType.int), ⟨"SeptetCentre$Row", "at", "(I)I"⟩)
def M_Ro_flip : MM := (prog_9_method_11_code, 3, none, ⟨"SeptetCentre$Row", "flip", "(II)V"⟩)
def M_Ro_put : MM := (prog_9_method_12_code, 2, none, ⟨"SeptetCentre$Row", "put", "(I)V"⟩)
def M_Ro_merge : MM := (prog_9_method_13_code, 3, none, ⟨"SeptetCentre$Row", "merge", "(II)V"⟩)
def M_Ro_putDigits : MM := (prog_9_method_14_code, 8, none, ⟨"SeptetCentre$Row", "putDigits", "(JI)V"⟩)
def M_Ro_putAddress : MM := (prog_9_method_15_code, 4, none, ⟨"SeptetCentre$Row", "putAddress", "(J)V"⟩)
def M_Ro_putTime : MM := (prog_9_method_16_code, 2, none, ⟨"SeptetCentre$Row", "putTime", "(I)V"⟩)
def M_Ro_putSubmitHead : MM := (prog_9_method_17_code, 6, none, ⟨"SeptetCentre$Row", "putSubmitHead", "(IIJI)V"⟩)
def M_Ro_putHeader : MM := (prog_9_method_18_code, 4, none, ⟨"SeptetCentre$Row", "putHeader", "(III)V"⟩)
def M_Ro_putRest : MM := (prog_9_method_19_code, 4, none, ⟨"SeptetCentre$Row", "putRest", "(LSeptetCentre$Row;I)V"⟩)
def M_Ro_mergeSeptet : MM := (prog_9_method_20_code, 6, none, ⟨"SeptetCentre$Row", "mergeSeptet", "(III)V"⟩)
def M_Ro_septetAt : MM := (prog_9_method_21_code, 6, (some FieldType.int), ⟨"SeptetCentre$Row", "septetAt", "(II)I"⟩)
def M_Ro_digitAt : MM := (prog_9_method_22_code, 4, (some FieldType.int), ⟨"SeptetCentre$Row", "digitAt", "(II)I"⟩)
def M_Ro_numberAt : MM := (prog_9_method_23_code, 6, (some FieldType.long), ⟨"SeptetCentre$Row", "numberAt", "(I)J"⟩)
def M_Ro_hasHeader : MM := (prog_9_method_24_code, 1, (some FieldType.boolean), ⟨"SeptetCentre$Row", "hasHeader", "()Z"⟩)
def M_Ro_firstBit : MM := (prog_9_method_25_code, 1, (some FieldType.int), ⟨"SeptetCentre$Row", "firstBit", "()I"⟩)
def M_Ro_submitDataAt : MM := (prog_9_method_26_code, 1, (some FieldType.int), ⟨"SeptetCentre$Row", "submitDataAt", "()I"⟩)
def M_Ro_deliverDataAt : MM := (prog_9_method_27_code, 1, (some FieldType.int), ⟨"SeptetCentre$Row", "deliverDataAt", "()I"⟩)
def M_Ro_readText : MM := (prog_9_method_28_code, 9, (some FieldType.int), ⟨"SeptetCentre$Row", "readText", "([II)I"⟩)
def M_Su_areKept : MM := (prog_10_method_2_code, 4, (some FieldType.boolean), ⟨"SeptetCentre$SubmitRules", "areKept", "(LSeptetCentre$Row;)Z"⟩)
def M_Su_isAddress : MM := (prog_10_method_3_code, 5, (some FieldType.boolean), ⟨"SeptetCentre$SubmitRules", "isAddress", "(LSeptetCentre$Row;I)Z"⟩)
def M_Su_isUserData : MM := (prog_10_method_4_code, 4, (some FieldType.boolean), ⟨"SeptetCentre$SubmitRules", "isUserData", "(LSeptetCentre$Row;I)Z"⟩)
def M_Su_isHeader : MM := (prog_10_method_5_code, 5, (some FieldType.boolean), ⟨"SeptetCentre$SubmitRules", "isHeader", "(LSeptetCentre$Row;I)Z"⟩)
def M_Su_isText : MM := (prog_10_method_6_code, 6, (some FieldType.boolean), ⟨"SeptetCentre$SubmitRules", "isText", "(LSeptetCentre$Row;I)Z"⟩)
def M_Obj_init : MM := (object_method_1_code, 1, none, ⟨"java/lang/Object", "<init>", "()V"⟩)
def M_Ma_max : MM := (prog_17_method_65_code, 2, (some FieldType.int), ⟨"java/lang/Math", "max", "(II)I"⟩)
def M_Ma_min : MM := (prog_17_method_69_code, 2, (some FieldType.int), ⟨"java/lang/Math", "min", "(II)I"⟩)
def M_AbC_init : MM := (prog_19_method_1_code, 1, none, ⟨"java/util/AbstractCollection", "<init>", "()V"⟩)
def M_AbL_init : MM := (prog_20_method_1_code, 1, none, ⟨"java/util/AbstractList", "<init>", "()V"⟩)
def M_AL_init : MM := (prog_21_method_2_code, 1, none, ⟨"java/util/ArrayList", "<init>", "()V"⟩)
def M_AL_add : MM := (prog_21_method_25_code, 2, (some FieldType.boolean), ⟨"java/util/ArrayList", "add", "(Ljava/lang/Object;)Z"⟩)
def M_AL_add1 : MM := (prog_21_method_24_code, 4, none, ⟨"java/util/ArrayList", "add", "(Ljava/lang/Object;[Ljava/lang/Object;I)V"⟩)
def M_AL_elementData : MM := (prog_21_method_18_code, 2, (some (FieldType.object "java/lang/Object")), ⟨"java/util/ArrayList", "elementData", "(I)Ljava/lang/Object;"⟩)
def M_AL_fastRemove : MM := (prog_21_method_39_code, 4, none, ⟨"java/util/ArrayList", "fastRemove", "([Ljava/lang/Object;I)V"⟩)
def M_AL_get : MM := (prog_21_method_20_code, 2, (some (FieldType.object "java/lang/Object")), ⟨"java/util/ArrayList", "get", "(I)Ljava/lang/Object;"⟩)
def M_AL_grow : MM := (prog_21_method_7_code, 1, (some (FieldType.array (FieldType.object "java/lang/Object"))), ⟨"java/util/ArrayList", "grow", "()[Ljava/lang/Object;"⟩)
def M_AL_grow1 : MM := (prog_21_method_6_code, 4, (some (FieldType.array (FieldType.object "java/lang/Object"))), ⟨"java/util/ArrayList", "grow", "(I)[Ljava/lang/Object;"⟩)
def M_AL_isEmpty : MM := (prog_21_method_9_code, 1, (some FieldType.boolean), ⟨"java/util/ArrayList", "isEmpty", "()Z"⟩)
def M_AL_remove : MM := (prog_21_method_29_code, 4, (some (FieldType.object "java/lang/Object")), ⟨"java/util/ArrayList", "remove", "(I)Ljava/lang/Object;"⟩)
def M_AL_set : MM := (prog_21_method_23_code, 4, (some (FieldType.object "java/lang/Object")), ⟨"java/util/ArrayList", "set", "(ILjava/lang/Object;)Ljava/lang/Object;"⟩)
def M_AL_size : MM := (prog_21_method_8_code, 1, (some FieldType.int), ⟨"java/util/ArrayList", "size", "()I"⟩)
def M_Ar_copyOf : MM := (prog_22_method_119_code, 2, (some (FieldType.array (FieldType.object "java/lang/Object"))), ⟨"java/util/Arrays", "copyOf", "([Ljava/lang/Object;I)[Ljava/lang/Object;"⟩)
def M_Ar_copyOf1 : MM := (prog_22_method_120_code, 4, (some (FieldType.array (FieldType.object "java/lang/Object"))), ⟨"java/util/Arrays", "copyOf", "([Ljava/lang/Object;ILjava/lang/Class;)[Ljava/lang/Object;"⟩)
def M_Ob_checkIndex : MM := (prog_25_method_17_code, 2, (some FieldType.int), ⟨"java/util/Objects", "checkIndex", "(II)I"⟩)
def M_AS_hugeLength : MM := (prog_28_method_28_code, 3, (some FieldType.int), ⟨"jdk/internal/util/ArraysSupport", "hugeLength", "(II)I"⟩)
def M_AS_newLength : MM := (prog_28_method_27_code, 4, (some FieldType.int), ⟨"jdk/internal/util/ArraysSupport", "newLength", "(III)I"⟩)
def M_Pre_checkIndex : MM := (prog_29_method_11_code, 3, (some FieldType.int), ⟨"jdk/internal/util/Preconditions", "checkIndex", "(IILjava/util/function/BiFunction;)I"⟩)
def M_LW_law : MM := (code, maxLocals, ret, x)
end
section
/-! the heap as the proofs see it: kinds, ints, longs, references -/
abbrev Hp : Type := (Nat → Option (Nat × Nat)) × (Nat → Nat → Int32) × (Nat → Nat → Int64) × (Nat → Nat → Option Nat)
def hS (h : Hp) : Nat → Option (Nat × Nat) := h.1
def hI (h : Hp) : Nat → Nat → Int32 := h.2.1
def hL (h : Hp) : Nat → Nat → Int64 := h.2.2.1
def hR (h : Hp) : Nat → Nat → Option Nat := h.2.2.2
def up2 {α : Type} (f : Nat → Nat → α) (a k : Nat) (v : α) : Nat → Nat → α := fun x y => if x = a ∧ y = k then v else f x y
def pI (h : Hp) (a k : Nat) (v : Int32) : Hp := (h.1, up2 h.2.1 a k v, h.2.2)
def pL (h : Hp) (a k : Nat) (v : Int64) : Hp := (h.1, h.2.1, up2 h.2.2.1 a k v, h.2.2.2)
def pR (h : Hp) (a k : Nat) (v : Option Nat) : Hp := (h.1, h.2.1, h.2.2.1, up2 h.2.2.2 a k v)
def pA (h : Hp) (a : Nat) (f : Nat → Option Nat) : Hp := (h.1, h.2.1, h.2.2.1, fun x y => if x = a then f y else h.2.2.2 x y)
def pN (h : Hp) (a : Nat) (kd : Nat × Nat) : Hp := (fun x => if x = a then some kd else h.1 x, h.2)
theorem up2_same {α : Type} (f : Nat → Nat → α) (a k : Nat) (v : α) : up2 f a k v a = va_up (f a) k v := by
  funext y; simp [up2, va_up]
theorem up2_off {α : Type} (f : Nat → Nat → α) {a b : Nat} (k : Nat) (v : α) (h : b ≠ a) : up2 f a k v b = f b := by
  funext y; simp [up2, h]
abbrev Gx : Type := State × va_G × (Nat → Nat) × Nat × (Nat → Int32)
/-- the constants' cells: 0 the lists' empty row, 1 to 3 the alphabet's rows, 4 to 7 the fates (waits, taken, too old, unknown), 8 the row class's mirror, 9 the script -/
def gK (G : Gx) (t : Nat) : Nat := G.2.2.1 t
def tabC : List Int32 := [64, 163, 36, 165, 232, 233, 249, 236, 242, 199, 10, 216, 248, 13, 197, 229, 916, 95, 934, 915, 923, 937, 928, 936, 931, 920, 926, -1, 198, 230, 223, 201, 32, 33, 34, 35, 164, 37, 38, 39, 40, 41, 42, 43, 44, 45, 46, 47, 48, 49, 50, 51, 52, 53, 54, 55, 56, 57, 58, 59, 60, 61, 62, 63, 161, 65, 66, 67, 68, 69, 70, 71, 72, 73, 74, 75, 76, 77, 78, 79, 80, 81, 82, 83, 84, 85, 86, 87, 88, 89, 90, 196, 214, 209, 220, 167, 191, 97, 98, 99, 100, 101, 102, 103, 104, 105, 106, 107, 108, 109, 110, 111, 112, 113, 114, 115, 116, 117, 118, 119, 120, 121, 122, 228, 246, 241, 252, 224]
def tabD : List Int32 := [10, 20, 40, 41, 47, 60, 61, 62, 64, 101]
def tabE : List Int32 := [12, 94, 123, 125, 92, 91, 126, 93, 124, 8364]
def kLen (G : Gx) (t : Nat) : Nat := if t = 1 then 128 else if t = 2 then 10 else if t = 3 then 10 else G.2.2.2.1
def kTab (G : Gx) (t j : Nat) : Int32 := if t = 1 then tabC.getD j 0 else if t = 2 then tabD.getD j 0 else if t = 3 then tabE.getD j 0 else G.2.2.2.2 j
def fateA (t : Nat) : Int32 := if t = 4 then 0 else if t = 5 then 1 else if t = 6 then 2 else 3
def fateR (t : Nat) : Int32 := if t = 4 then 0 else if t = 5 then 0 else if t = 6 then 70 else 73
def rcn (t : Nat) : String := if t = 3 then "java/lang/Object" else if t = 4 then "SeptetCentre$Row" else "SeptetCentre$Device"
def okA (s0 : State) (ty : FieldType) (n : Nat) (f : Nat → Value) (c : Cell) : Prop := c.vm ≠ .unknown ∧ s0.isArrayOf c ty ∧ c.slots.size = n ∧ ∀ j, j < n → c.slots[j]? = some (f j)
def okQ (s0 : State) (E : String) (n : Nat) (r : Nat → Option Nat) (c : Cell) : Prop := c = arrV c.cls n (fun j => va_rf (r j)) ∧ ∃ (kA : Class) (comp : ClassId), s0.vm.classes[c.cls]? = some kA ∧ kA.kind = .array comp (.object E) ∧ s0.vm.findClass E = some comp ∧ s0.vm.findClass ("[" ++ (FieldType.object E).toString) = some c.cls
theorem okQ.A {s0 : State} {E : String} {n : Nat} {r : Nat → Option Nat} {c : Cell} (h : okQ s0 E n r c) : okA s0 (.object E) n (fun j => va_rf (r j)) c := by
  obtain ⟨h1, kA, comp, h2, h3, -⟩ := h
  generalize c.cls = d at h1 h2
  subst h1
  exact ⟨fun z => (by cases z), ⟨fun k z => (by cases z), kA, h2, comp, h3⟩, arrV_size _ _ _, fun j hj => arrV_read _ _ hj⟩
theorem okQ.set {s0 : State} {E : String} {n : Nat} {r g : Nat → Option Nat} {c : Cell} (h : okQ s0 E n r c) {j : Nat} {x : Option Nat} (hg : g = va_up r j x) : okQ s0 E n g (c.setSlot j (va_rf x)) := by
  obtain ⟨h1, h2⟩ := h
  refine ⟨?_, h2⟩
  have e : (arrV c.cls n (fun j => va_rf (r j))).setSlot j (va_rf x) = arrV c.cls n (fun j => va_rf (g j)) := by
    rw [arrV_store, hg]
    congr 1
    funext q
    by_cases e : q = j <;> simp [updV, va_up, e]
  rw [← h1] at e
  exact e
def fv (i : Nat → Int32) (l : Nat → Int64) (r : Nat → Option Nat) (k : Nat) (d : String) : Value := if d = "J" then .long (l k) else if d = "I" ∨ d = "Z" then .int (i k) else va_rf (r k)
def okO (G : Gx) (i : Nat → Int32) (l : Nat → Int64) (r : Nat → Option Nat) (ci : Nat) (c : Cell) : Prop := ∃ (q : vw_C), zCL[ci]? = some q ∧ c.cls = G.2.1.1 ci ∧ c.vm = .none ∧ ∀ k, k < q.2.2 → c.slots[G.2.1.2 ci k]? = some (fv i l r k (q.2.1 k).2.2.1)
/-- a fate: a constant object, its two numbers -/
def okF (G : Gx) (t : Nat) : Prop := ∃ c : Cell, G.1.heap[gK G t]? = some c ∧ c.vm.isStatics = false ∧ c.vm ≠ .unknown ∧ (∃ cf k x f, G.1.fieldFound? "SeptetCentre$Fate" "answer" "I" = some (cf, k, x, f) ∧ f.isStatic = false ∧ c.slots[f.slot]? = some (.int (fateA t))) ∧ ∃ cf k x f, G.1.fieldFound? "SeptetCentre$Fate" "reported" "I" = some (cf, k, x, f) ∧ f.isStatic = false ∧ c.slots[f.slot]? = some (.int (fateR t))
def okZ (G : Gx) (C n d : String) (t : Nat) : Prop := va_Z C n d (.ref (gK G t)) (fun q => G.1.heap.size ≤ q) G.1 G.1.heap
def zSt (G : Gx) : Prop :=
  (okZ G "java/util/ArrayList" "DEFAULTCAPACITY_EMPTY_ELEMENTDATA" "[Ljava/lang/Object;" 0 ∧ okZ G "SeptetCentre$Alphabet" "CHARACTERS" "[I" 1 ∧ okZ G "SeptetCentre$Alphabet" "SECOND_CODES" "[I" 2 ∧ okZ G "SeptetCentre$Alphabet" "SECOND_CHARACTERS" "[I" 3) ∧
  (okZ G "SeptetCentre$Fate" "WAITS" "LSeptetCentre$Fate;" 4 ∧ okZ G "SeptetCentre$Fate" "TAKEN" "LSeptetCentre$Fate;" 5 ∧ okZ G "SeptetCentre$Fate" "TOO_OLD" "LSeptetCentre$Fate;" 6 ∧ okZ G "SeptetCentre$Fate" "UNKNOWN" "LSeptetCentre$Fate;" 7) ∧
  (∀ t, 4 ≤ t → t ≤ 7 → okF G t) ∧ (∀ i j, 4 ≤ i → i ≤ 7 → 4 ≤ j → j ≤ 7 → gK G i = gK G j → i = j) ∧
  (∀ t, (1 ≤ t ∧ t ≤ 3) ∨ t = 9 → ∃ c : Cell, G.1.heap[gK G t]? = some c ∧ okA G.1 .int (kLen G t) (fun j => .int (kTab G t j)) c) ∧
  (∃ c : Cell, G.1.heap[gK G 0]? = some c ∧ okA G.1 (.object "java/lang/Object") 0 (fun _ => .null) c) ∧
  va_Mi "[Ljava/lang/Object;" (gK G 8) G.1 ∧ G.2.2.2.1 ≤ 3072
def okC (G : Gx) (i : Nat → Int32) (l : Nat → Int64) (r : Nat → Option Nat) (kd : Nat × Nat) (c : Cell) : Prop :=
  (kd.1 = 0 → okA G.1 .int kd.2 (fun j => .int (i j)) c) ∧
  (kd.1 = 1 → okA G.1 .long kd.2 (fun j => .long (l j)) c) ∧
  (kd.1 = 2 → okA G.1 .boolean kd.2 (fun j => .int (i j)) c) ∧
  (3 ≤ kd.1 → kd.1 ≤ 5 → okQ G.1 (rcn kd.1) kd.2 r c) ∧
  (∀ ci, kd.1 = ci + 10 → okO G i l r ci c)
def Rf (G : Gx) (h : Hp) (H : Heap) : Prop :=
  (∀ a kd, hS h a = some kd → ∃ c : Cell, H[a]? = some c ∧ okC G (hI h a) (hL h a) (hR h a) kd c ∧ G.1.heap.size ≤ a) ∧
  (∀ a, H.size ≤ a → (∀ k, hI h a k = 0) ∧ (∀ k, hL h a k = 0) ∧ (∀ k, hR h a k = none)) ∧
  (∀ q : Nat, q < G.1.heap.size → H[q]? = G.1.heap[q]?) ∧ G.1.heap.size ≤ H.size
/-- a class, as the tables have it at the start -/
def clO (G : Gx) (A0 : Array Value) (ci : Nat) (q : vw_C) : Prop :=
  u_Kn G.1 q.1 q.2.1 q.2.2 (G.2.1.1 ci) (G.2.1.2 ci) ∧ (∀ w ∈ u_ws q.1 q.2.1 q.2.2, w ∈ lw_tbl) ∧ (∀ k, k < q.2.2 → ∃ ty, parseFieldDescriptor (q.2.1 k).2.2.1 = some ty ∧ defaultValue ty = fv (fun _ => 0) (fun _ => 0) (fun _ => none) k (q.2.1 k).2.2.1) ∧ (∀ x y, x < q.2.2 → y < q.2.2 → x ≠ y → G.2.1.2 ci x ≠ G.2.1.2 ci y)
def SysF (G : Gx) : Prop := ∃ A0 : Array Value, (∀ w ∈ lw_tbl, w.before A0 G.1 = true) ∧ (∀ ci q, zCL[ci]? = some q → clO G A0 ci q) ∧ zSt G
/-- a method: own, code, its locals, its answer, its name -/
def mB (M : MM) : ByteArray := M.1
def mL (M : MM) : Nat := M.2.1
def mT (M : MM) : Option FieldType := M.2.2.1
def mY (M : MM) : MethodName := M.2.2.2
def mO (M : MM) : String := M.2.2.2.cls
abbrev Rr : Type := Program × Launch × Env × Room × State × MethodId × Array Value × List Frame × Method × Code
abbrev Xr : Type := Gx × Rr × (State → Prop)
def xR (X : Xr) : Room := X.2.1.2.2.2.1
def xl (X : Xr) : Launch := X.2.1.2.1
def OKx (M : MM) (X : Xr) : Prop := match X with
  | (G, (p, _, _, _, s, m, _, _, meth, c), _) => p.tables.exec = Jvm.exec ∧ c.code = mB M ∧ c.maxLocals = mL M ∧ s.vm.findClass (mO M) = some m.cls ∧ meth.locks = false ∧ meth.sig.returnType = mT M ∧ meth.name = (mY M).name ∧ G.1.WarmedH s.vm ∧ SysF G
def Lv (ls : Array Slot) (n : Nat) (lv : List (Option Value)) : Prop := ls.size = n ∧ lv_wf ls ∧ ∀ (i : Nat) (v : Value), lv[i]? = some (some v) → ls[i]? = some (.val v)
/-- from here the machine comes to its end -/
def Go (M : MM) (X : Xr) (pc : Nat) (lv : List (Option Value)) (st : List Value) (h : Hp) (k n : Nat) : Prop := match X with
  | (G, (p, l, e, R, s, m, args, below, meth, c), Q) => OKx M (G, (p, l, e, R, s, m, args, below, meth, c), Q) → ∀ (ls : Array Slot) (H : Heap) (locs : List Loc), Lv ls (mL M) lv → Rf G h H → (∀ q ∈ locs, G.1.heap.size ≤ q.base) → W p l e R s m args below meth c H locs k n Q (F0 m pc ls st)
theorem Lv.ld {ls : Array Slot} {n : Nat} {lv : List (Option Value)} (h : Lv ls n lv) {i : Nat} {v : Value} (hi : lv[i]? = some (some v)) : ls[i]? = some (.val v) := h.2.2 i v hi
/-- what a store leaves of the locals -/
def lvK (lv : List (Option Value)) (i : Nat) : List (Option Value) := match i with
  | 0 => lv
  | j + 1 => match lv[j]? with
    | some (some v) => if v.category = 2 then lv.set j none else lv
    | _ => lv
def st1 (lv : List (Option Value)) (i : Nat) (v : Value) : List (Option Value) := (lvK lv i).set i (some v)
def st2 (lv : List (Option Value)) (i : Nat) (v : Value) : List (Option Value) := ((lvK lv i).set (i + 1) none).set i (some v)
theorem lvK_of {lv : List (Option Value)} {i j : Nat} {v : Value} (h : (lvK lv i)[j]? = some (some v)) : lv[j]? = some (some v) ∧ ¬ (j + 1 = i ∧ v.category = 2) := by
  unfold lvK at h
  cases i with
  | zero => exact ⟨h, fun q => by omega⟩
  | succ i =>
    simp only at h
    cases hx : lv[i]? with
    | none =>
      rw [hx] at h
      refine ⟨h, fun q => ?_⟩
      obtain ⟨q1, q2⟩ := q
      have e : j = i := by omega
      subst e
      simp only at h
      rw [hx] at h
      cases h
    | some o =>
      rw [hx] at h
      cases o with
      | none =>
        refine ⟨h, fun q => ?_⟩
        obtain ⟨q1, q2⟩ := q
        have e : j = i := by omega
        subst e
        simp only at h
        rw [hx] at h
        cases h
      | some w =>
        simp only at h
        by_cases hw : w.category = 2
        · rw [if_pos hw] at h
          by_cases hj : j = i
          · subst hj
            have hlt : j < lv.length := (List.getElem?_eq_some_iff.mp hx).1
            rw [List.getElem?_set_self hlt] at h
            cases h
          · rw [List.getElem?_set_ne (Ne.symm hj)] at h
            exact ⟨h, fun q => by omega⟩
        · rw [if_neg hw] at h
          refine ⟨h, fun q => ?_⟩
          have : j = i := by omega
          subst this
          rw [hx] at h
          cases h
          exact hw q.2
theorem Lv.s1 {ls : Array Slot} {n : Nat} {lv : List (Option Value)} (h : Lv ls n lv) {i : Nat} {v : Value} (hi : i < n) (hc : v.category = 1) : ∃ ls', storeLocals ls i v = some ls' ∧ Lv ls' n (st1 lv i v) := by
  obtain ⟨ls', e1, e2⟩ := lv_store1 (l := []) ⟨h.1, h.2.1, fun _ q => by cases q⟩ hi hc
  refine ⟨ls', e1, e2.1, e2.2.1, fun j w hj => ?_⟩
  unfold st1 at hj
  by_cases hji : j = i
  · subst hji
    by_cases hlt : j < (lvK lv j).length
    · rw [List.getElem?_set_self hlt] at hj
      cases hj
      exact e2.2.2 (j, v) List.mem_cons_self
    · rw [List.getElem?_eq_none (by simpa using hlt)] at hj
      cases hj
  · rw [List.getElem?_set_ne (Ne.symm hji)] at hj
    obtain ⟨h1, h2⟩ := lvK_of hj
    obtain ⟨ls2, f1, f2⟩ := lv_store1 (l := [(j, w)]) ⟨h.1, h.2.1, fun q hq => by
      rcases List.mem_singleton.mp hq with rfl
      exact h.2.2 j w h1⟩ hi hc
    cases e1.symm.trans f1
    refine f2.2.2 (j, w) (List.mem_cons_of_mem _ (List.mem_filter.mpr ⟨List.mem_singleton.mpr rfl, ?_⟩))
    have a1 : (j == i) = false := by simpa using hji
    simp only [a1, Bool.not_false, Bool.true_and, Bool.not_eq_true', Bool.and_eq_false_iff, beq_eq_false_iff_ne, ne_eq]
    by_cases q1 : j + 1 = i
    · exact Or.inr (fun q2 => h2 ⟨q1, q2⟩)
    · exact Or.inl q1
theorem Lv.s2 {ls : Array Slot} {n : Nat} {lv : List (Option Value)} (h : Lv ls n lv) {i : Nat} {v : Value} (hi : i + 1 < n) (hc : v.category = 2) : ∃ ls', storeLocals ls i v = some ls' ∧ Lv ls' n (st2 lv i v) := by
  obtain ⟨ls', e1, e2⟩ := lv_store2 (l := []) ⟨h.1, h.2.1, fun _ q => by cases q⟩ hi hc
  refine ⟨ls', e1, e2.1, e2.2.1, fun j w hj => ?_⟩
  unfold st2 at hj
  by_cases hji : j = i
  · subst hji
    by_cases hlt : j < ((lvK lv j).set (j + 1) none).length
    · rw [List.getElem?_set_self hlt] at hj
      cases hj
      exact e2.2.2 (j, v) List.mem_cons_self
    · rw [List.getElem?_eq_none (by simpa using hlt)] at hj
      cases hj
  · rw [List.getElem?_set_ne (Ne.symm hji)] at hj
    have hj1 : j ≠ i + 1 := by
      intro q
      subst q
      by_cases hlt : i + 1 < (lvK lv i).length
      · rw [List.getElem?_set_self hlt] at hj
        cases hj
      · rw [List.getElem?_eq_none (by simpa using hlt)] at hj
        cases hj
    rw [List.getElem?_set_ne (Ne.symm hj1)] at hj
    obtain ⟨h1, h2⟩ := lvK_of hj
    obtain ⟨ls2, f1, f2⟩ := lv_store2 (l := [(j, w)]) ⟨h.1, h.2.1, fun q hq => by
      rcases List.mem_singleton.mp hq with rfl
      exact h.2.2 j w h1⟩ hi hc
    cases e1.symm.trans f1
    refine f2.2.2 (j, w) (List.mem_cons_of_mem _ (List.mem_filter.mpr ⟨List.mem_singleton.mpr rfl, ?_⟩))
    have a1 : (j == i) = false := by simpa using hji
    have a2 : (j == i + 1) = false := by simpa using hj1
    simp only [a1, a2, Bool.not_false, Bool.true_and, Bool.not_eq_true', Bool.and_eq_false_iff, beq_eq_false_iff_ne, ne_eq]
    by_cases q1 : j + 1 = i
    · exact Or.inr (fun q2 => h2 ⟨q1, q2⟩)
    · exact Or.inl q1

theorem g_iconst {M : MM} {X : Xr} {pc : Nat} {lv : List (Option Value)} {st : List Value} {h : Hp} {k n : Nat} {i : Int} {v : Int32} (hd : decode (mB M) pc = .ok (.iconst i, 1)) (hv : Int32.ofInt i = v) (K : Go M X (pc + 1) lv (.int v :: st) h k n) : Go M X pc lv st h k n := by
  obtain ⟨G, ⟨p, l, e, R, s, m, args, below, meth, c⟩, Q⟩ := X
  intro ok ls H locs hl hR hq
  exact lv_iconst ok.1 ok.2.1 hd hv (K ok ls H locs hl hR hq)
theorem g_bipush {M : MM} {X : Xr} {pc : Nat} {lv : List (Option Value)} {st : List Value} {h : Hp} {k n : Nat} {i : Int} {v : Int32} (hd : decode (mB M) pc = .ok (.bipush i, 2)) (hv : (Int8.ofInt i).toInt32 = v) (K : Go M X (pc + 2) lv (.int v :: st) h k n) : Go M X pc lv st h k n := by
  obtain ⟨G, ⟨p, l, e, R, s, m, args, below, meth, c⟩, Q⟩ := X
  intro ok ls H locs hl hR hq
  exact lv_bipush ok.1 ok.2.1 hd hv (K ok ls H locs hl hR hq)
theorem g_sipush {M : MM} {X : Xr} {pc : Nat} {lv : List (Option Value)} {st : List Value} {h : Hp} {k n : Nat} {i : Int} {v : Int32} (hd : decode (mB M) pc = .ok (.sipush i, 3)) (hv : (Int16.ofInt i).toInt32 = v) (K : Go M X (pc + 3) lv (.int v :: st) h k n) : Go M X pc lv st h k n := by
  obtain ⟨G, ⟨p, l, e, R, s, m, args, below, meth, c⟩, Q⟩ := X
  intro ok ls H locs hl hR hq
  exact lv_sipush ok.1 ok.2.1 hd hv (K ok ls H locs hl hR hq)
theorem g_lconst {M : MM} {X : Xr} {pc : Nat} {lv : List (Option Value)} {st : List Value} {h : Hp} {k n : Nat} {i : Fin 2} {v : Int64} (hd : decode (mB M) pc = .ok (.lconst i, 1)) (hv : Int64.ofNat (i : Nat) = v) (K : Go M X (pc + 1) lv (.long v :: st) h k n) : Go M X pc lv st h k n := by
  obtain ⟨G, ⟨p, l, e, R, s, m, args, below, meth, c⟩, Q⟩ := X
  intro ok ls H locs hl hR hq
  exact lv_lconst ok.1 ok.2.1 hd hv (K ok ls H locs hl hR hq)
theorem g_null {M : MM} {X : Xr} {pc : Nat} {lv : List (Option Value)} {st : List Value} {h : Hp} {k n : Nat}  (hd : decode (mB M) pc = .ok (.aconst_null, 1)) (K : Go M X (pc + 1) lv (.null :: st) h k n) : Go M X pc lv st h k n := by
  obtain ⟨G, ⟨p, l, e, R, s, m, args, below, meth, c⟩, Q⟩ := X
  intro ok ls H locs hl hR hq
  exact lv_null ok.1 ok.2.1 hd (K ok ls H locs hl hR hq)
theorem g_iload_n {M : MM} {X : Xr} {pc : Nat} {lv : List (Option Value)} {st : List Value} {h : Hp} {k n : Nat} {j : Fin 4} {x : Int32} (hd : decode (mB M) pc = .ok (.iload_n j, 1)) (hx : lv[(j : Nat)]? = some (some (.int x))) (K : Go M X (pc + 1) lv (.int x :: st) h k n) : Go M X pc lv st h k n := by
  obtain ⟨G, ⟨p, l, e, R, s, m, args, below, meth, c⟩, Q⟩ := X
  intro ok ls H locs hl hR hq
  exact lv_iload_n ok.1 ok.2.1 hd rfl (hl.ld hx) (K ok ls H locs hl hR hq)
theorem g_iload {M : MM} {X : Xr} {pc : Nat} {lv : List (Option Value)} {st : List Value} {h : Hp} {k n : Nat} {j : Nat} {x : Int32} (hd : decode (mB M) pc = .ok (.iload j, 2)) (hx : lv[j]? = some (some (.int x))) (K : Go M X (pc + 2) lv (.int x :: st) h k n) : Go M X pc lv st h k n := by
  obtain ⟨G, ⟨p, l, e, R, s, m, args, below, meth, c⟩, Q⟩ := X
  intro ok ls H locs hl hR hq
  exact lv_iload ok.1 ok.2.1 hd (hl.ld hx) (K ok ls H locs hl hR hq)
theorem g_lload_n {M : MM} {X : Xr} {pc : Nat} {lv : List (Option Value)} {st : List Value} {h : Hp} {k n : Nat} {j : Fin 4} {x : Int64} (hd : decode (mB M) pc = .ok (.lload_n j, 1)) (hx : lv[(j : Nat)]? = some (some (.long x))) (K : Go M X (pc + 1) lv (.long x :: st) h k n) : Go M X pc lv st h k n := by
  obtain ⟨G, ⟨p, l, e, R, s, m, args, below, meth, c⟩, Q⟩ := X
  intro ok ls H locs hl hR hq
  exact lv_lload_n ok.1 ok.2.1 hd rfl (hl.ld hx) (K ok ls H locs hl hR hq)
theorem g_lload {M : MM} {X : Xr} {pc : Nat} {lv : List (Option Value)} {st : List Value} {h : Hp} {k n : Nat} {j : Nat} {x : Int64} (hd : decode (mB M) pc = .ok (.lload j, 2)) (hx : lv[j]? = some (some (.long x))) (K : Go M X (pc + 2) lv (.long x :: st) h k n) : Go M X pc lv st h k n := by
  obtain ⟨G, ⟨p, l, e, R, s, m, args, below, meth, c⟩, Q⟩ := X
  intro ok ls H locs hl hR hq
  exact lv_lload ok.1 ok.2.1 hd (hl.ld hx) (K ok ls H locs hl hR hq)
theorem g_aload_n {M : MM} {X : Xr} {pc : Nat} {lv : List (Option Value)} {st : List Value} {h : Hp} {k n : Nat} {j : Fin 4} {x : Nat} (hd : decode (mB M) pc = .ok (.aload_n j, 1)) (hx : lv[(j : Nat)]? = some (some (.ref x))) (K : Go M X (pc + 1) lv (.ref x :: st) h k n) : Go M X pc lv st h k n := by
  obtain ⟨G, ⟨p, l, e, R, s, m, args, below, meth, c⟩, Q⟩ := X
  intro ok ls H locs hl hR hq
  exact lv_aload_n ok.1 ok.2.1 hd rfl (hl.ld hx) (K ok ls H locs hl hR hq)
theorem g_aload {M : MM} {X : Xr} {pc : Nat} {lv : List (Option Value)} {st : List Value} {h : Hp} {k n : Nat} {j : Nat} {x : Nat} (hd : decode (mB M) pc = .ok (.aload j, 2)) (hx : lv[j]? = some (some (.ref x))) (K : Go M X (pc + 2) lv (.ref x :: st) h k n) : Go M X pc lv st h k n := by
  obtain ⟨G, ⟨p, l, e, R, s, m, args, below, meth, c⟩, Q⟩ := X
  intro ok ls H locs hl hR hq
  exact lv_aload ok.1 ok.2.1 hd (hl.ld hx) (K ok ls H locs hl hR hq)
theorem g_aload_nN {M : MM} {X : Xr} {pc : Nat} {lv : List (Option Value)} {st : List Value} {h : Hp} {k n : Nat} {j : Fin 4} (hd : decode (mB M) pc = .ok (.aload_n j, 1)) (hx : lv[(j : Nat)]? = some (some .null)) (K : Go M X (pc + 1) lv (.null :: st) h k n) : Go M X pc lv st h k n := by
  obtain ⟨G, ⟨p, l, e, R, s, m, args, below, meth, c⟩, Q⟩ := X
  intro ok ls H locs hl hR hq
  exact lv_aload_nN ok.1 ok.2.1 hd rfl (hl.ld hx) (K ok ls H locs hl hR hq)
theorem g_aloadN {M : MM} {X : Xr} {pc : Nat} {lv : List (Option Value)} {st : List Value} {h : Hp} {k n : Nat} {j : Nat} (hd : decode (mB M) pc = .ok (.aload j, 2)) (hx : lv[j]? = some (some .null)) (K : Go M X (pc + 2) lv (.null :: st) h k n) : Go M X pc lv st h k n := by
  obtain ⟨G, ⟨p, l, e, R, s, m, args, below, meth, c⟩, Q⟩ := X
  intro ok ls H locs hl hR hq
  exact lv_aloadN ok.1 ok.2.1 hd (hl.ld hx) (K ok ls H locs hl hR hq)
theorem g_istore_n {M : MM} {X : Xr} {pc : Nat} {lv : List (Option Value)} {st : List Value} {h : Hp} {k n : Nat} {j : Fin 4} {x : Int32} {lv' : List (Option Value)} (hd : decode (mB M) pc = .ok (.istore_n j, 1)) (hn : (j : Nat) < mL M) (hv : st1 lv (j : Nat) (.int x) = lv') (K : Go M X (pc + 1) lv' st h k n) : Go M X pc lv (.int x :: st) h k n := by
  obtain ⟨G, ⟨p, l, e, R, s, m, args, below, meth, c⟩, Q⟩ := X
  intro ok ls H locs hl hR hq
  obtain ⟨ls', e1, e2⟩ := hl.s1 (v := .int x) hn rfl
  subst hv
  intro T hT Y
  obtain ⟨t, a, b⟩ := K ok ls' H locs e2 hR hq T hT Y
  refine ⟨t, ?_, b⟩
  jvm_step Y.here [Y.here.top, ↓top_set Y.here.top, ok.1, ok.2.1, hd, e1]
  exact a
theorem g_istore {M : MM} {X : Xr} {pc : Nat} {lv : List (Option Value)} {st : List Value} {h : Hp} {k n : Nat} {j : Nat} {x : Int32} {lv' : List (Option Value)} (hd : decode (mB M) pc = .ok (.istore j, 2)) (hn : j < mL M) (hv : st1 lv j (.int x) = lv') (K : Go M X (pc + 2) lv' st h k n) : Go M X pc lv (.int x :: st) h k n := by
  obtain ⟨G, ⟨p, l, e, R, s, m, args, below, meth, c⟩, Q⟩ := X
  intro ok ls H locs hl hR hq
  obtain ⟨ls', e1, e2⟩ := hl.s1 (v := .int x) hn rfl
  subst hv
  intro T hT Y
  obtain ⟨t, a, b⟩ := K ok ls' H locs e2 hR hq T hT Y
  refine ⟨t, ?_, b⟩
  jvm_step Y.here [Y.here.top, ↓top_set Y.here.top, ok.1, ok.2.1, hd, e1]
  exact a
theorem g_lstore_n {M : MM} {X : Xr} {pc : Nat} {lv : List (Option Value)} {st : List Value} {h : Hp} {k n : Nat} {j : Fin 4} {x : Int64} {lv' : List (Option Value)} (hd : decode (mB M) pc = .ok (.lstore_n j, 1)) (hn : (j : Nat) + 1 < mL M) (hv : st2 lv (j : Nat) (.long x) = lv') (K : Go M X (pc + 1) lv' st h k n) : Go M X pc lv (.long x :: st) h k n := by
  obtain ⟨G, ⟨p, l, e, R, s, m, args, below, meth, c⟩, Q⟩ := X
  intro ok ls H locs hl hR hq
  obtain ⟨ls', e1, e2⟩ := hl.s2 (v := .long x) hn rfl
  subst hv
  intro T hT Y
  obtain ⟨t, a, b⟩ := K ok ls' H locs e2 hR hq T hT Y
  refine ⟨t, ?_, b⟩
  jvm_step Y.here [Y.here.top, ↓top_set Y.here.top, ok.1, ok.2.1, hd, e1]
  exact a
theorem g_lstore {M : MM} {X : Xr} {pc : Nat} {lv : List (Option Value)} {st : List Value} {h : Hp} {k n : Nat} {j : Nat} {x : Int64} {lv' : List (Option Value)} (hd : decode (mB M) pc = .ok (.lstore j, 2)) (hn : j + 1 < mL M) (hv : st2 lv j (.long x) = lv') (K : Go M X (pc + 2) lv' st h k n) : Go M X pc lv (.long x :: st) h k n := by
  obtain ⟨G, ⟨p, l, e, R, s, m, args, below, meth, c⟩, Q⟩ := X
  intro ok ls H locs hl hR hq
  obtain ⟨ls', e1, e2⟩ := hl.s2 (v := .long x) hn rfl
  subst hv
  intro T hT Y
  obtain ⟨t, a, b⟩ := K ok ls' H locs e2 hR hq T hT Y
  refine ⟨t, ?_, b⟩
  jvm_step Y.here [Y.here.top, ↓top_set Y.here.top, ok.1, ok.2.1, hd, e1]
  exact a
theorem g_astore_n {M : MM} {X : Xr} {pc : Nat} {lv : List (Option Value)} {st : List Value} {h : Hp} {k n : Nat} {j : Fin 4} {x : Nat} {lv' : List (Option Value)} (hd : decode (mB M) pc = .ok (.astore_n j, 1)) (hn : (j : Nat) < mL M) (hv : st1 lv (j : Nat) (.ref x) = lv') (K : Go M X (pc + 1) lv' st h k n) : Go M X pc lv (.ref x :: st) h k n := by
  obtain ⟨G, ⟨p, l, e, R, s, m, args, below, meth, c⟩, Q⟩ := X
  intro ok ls H locs hl hR hq
  obtain ⟨ls', e1, e2⟩ := hl.s1 (v := .ref x) hn rfl
  subst hv
  intro T hT Y
  obtain ⟨t, a, b⟩ := K ok ls' H locs e2 hR hq T hT Y
  refine ⟨t, ?_, b⟩
  jvm_step Y.here [Y.here.top, ↓top_set Y.here.top, ok.1, ok.2.1, hd, e1, Value.isRef]
  exact a
theorem g_astore {M : MM} {X : Xr} {pc : Nat} {lv : List (Option Value)} {st : List Value} {h : Hp} {k n : Nat} {j : Nat} {x : Nat} {lv' : List (Option Value)} (hd : decode (mB M) pc = .ok (.astore j, 2)) (hn : j < mL M) (hv : st1 lv j (.ref x) = lv') (K : Go M X (pc + 2) lv' st h k n) : Go M X pc lv (.ref x :: st) h k n := by
  obtain ⟨G, ⟨p, l, e, R, s, m, args, below, meth, c⟩, Q⟩ := X
  intro ok ls H locs hl hR hq
  obtain ⟨ls', e1, e2⟩ := hl.s1 (v := .ref x) hn rfl
  subst hv
  intro T hT Y
  obtain ⟨t, a, b⟩ := K ok ls' H locs e2 hR hq T hT Y
  refine ⟨t, ?_, b⟩
  jvm_step Y.here [Y.here.top, ↓top_set Y.here.top, ok.1, ok.2.1, hd, e1, Value.isRef]
  exact a
theorem g_astore_nN {M : MM} {X : Xr} {pc : Nat} {lv : List (Option Value)} {st : List Value} {h : Hp} {k n : Nat} {j : Fin 4} {lv' : List (Option Value)} (hd : decode (mB M) pc = .ok (.astore_n j, 1)) (hn : (j : Nat) < mL M) (hv : st1 lv (j : Nat) .null = lv') (K : Go M X (pc + 1) lv' st h k n) : Go M X pc lv (.null :: st) h k n := by
  obtain ⟨G, ⟨p, l, e, R, s, m, args, below, meth, c⟩, Q⟩ := X
  intro ok ls H locs hl hR hq
  obtain ⟨ls', e1, e2⟩ := hl.s1 (v := .null) hn rfl
  subst hv
  intro T hT Y
  obtain ⟨t, a, b⟩ := K ok ls' H locs e2 hR hq T hT Y
  refine ⟨t, ?_, b⟩
  jvm_step Y.here [Y.here.top, ↓top_set Y.here.top, ok.1, ok.2.1, hd, e1, Value.isRef]
  exact a
theorem g_astoreN {M : MM} {X : Xr} {pc : Nat} {lv : List (Option Value)} {st : List Value} {h : Hp} {k n : Nat} {j : Nat} {lv' : List (Option Value)} (hd : decode (mB M) pc = .ok (.astore j, 2)) (hn : j < mL M) (hv : st1 lv j .null = lv') (K : Go M X (pc + 2) lv' st h k n) : Go M X pc lv (.null :: st) h k n := by
  obtain ⟨G, ⟨p, l, e, R, s, m, args, below, meth, c⟩, Q⟩ := X
  intro ok ls H locs hl hR hq
  obtain ⟨ls', e1, e2⟩ := hl.s1 (v := .null) hn rfl
  subst hv
  intro T hT Y
  obtain ⟨t, a, b⟩ := K ok ls' H locs e2 hR hq T hT Y
  refine ⟨t, ?_, b⟩
  jvm_step Y.here [Y.here.top, ↓top_set Y.here.top, ok.1, ok.2.1, hd, e1, Value.isRef]
  exact a
theorem g_iinc {M : MM} {X : Xr} {pc : Nat} {lv : List (Option Value)} {st : List Value} {h : Hp} {k n : Nat} {j : Nat} {i : Int} {x v : Int32} {lv' : List (Option Value)} (hd : decode (mB M) pc = .ok (.iinc j i, 3)) (hx : lv[j]? = some (some (.int x))) (hn : j < mL M) (hv : x + Int32.ofInt i = v) (he : st1 lv j (.int v) = lv') (K : Go M X (pc + 3) lv' st h k n) : Go M X pc lv st h k n := by
  obtain ⟨G, ⟨p, l, e, R, s, m, args, below, meth, c⟩, Q⟩ := X
  intro ok ls H locs hl hR hq
  have hg := hl.ld hx
  subst hv
  obtain ⟨ls', e1, e2⟩ := hl.s1 (v := .int (x + Int32.ofInt i)) hn rfl
  subst he
  intro T hT Y
  obtain ⟨t, a, b⟩ := K ok ls' H locs e2 hR hq T hT Y
  refine ⟨t, ?_, b⟩
  jvm_step Y.here [Y.here.top, ↓top_set Y.here.top, ok.1, ok.2.1, hd, hg, e1]
  exact a
theorem g_iadd {M : MM} {X : Xr} {pc : Nat} {lv : List (Option Value)} {st : List Value} {h : Hp} {k n : Nat} {x y : Int32} (hd : decode (mB M) pc = .ok (.iadd, 1))  (K : Go M X (pc + 1) lv (.int (x + y) :: st) h k n) : Go M X pc lv (.int y :: .int x :: st) h k n := by
  obtain ⟨G, ⟨p, l, e, R, s, m, args, below, meth, c⟩, Q⟩ := X
  intro ok ls H locs hl hR hq
  exact lv_iadd ok.1 ok.2.1 hd (K ok ls H locs hl hR hq)
theorem g_isub {M : MM} {X : Xr} {pc : Nat} {lv : List (Option Value)} {st : List Value} {h : Hp} {k n : Nat} {x y : Int32} (hd : decode (mB M) pc = .ok (.isub, 1))  (K : Go M X (pc + 1) lv (.int (x - y) :: st) h k n) : Go M X pc lv (.int y :: .int x :: st) h k n := by
  obtain ⟨G, ⟨p, l, e, R, s, m, args, below, meth, c⟩, Q⟩ := X
  intro ok ls H locs hl hR hq
  exact lv_isub ok.1 ok.2.1 hd (K ok ls H locs hl hR hq)
theorem g_imul {M : MM} {X : Xr} {pc : Nat} {lv : List (Option Value)} {st : List Value} {h : Hp} {k n : Nat} {x y : Int32} (hd : decode (mB M) pc = .ok (.imul, 1))  (K : Go M X (pc + 1) lv (.int (x * y) :: st) h k n) : Go M X pc lv (.int y :: .int x :: st) h k n := by
  obtain ⟨G, ⟨p, l, e, R, s, m, args, below, meth, c⟩, Q⟩ := X
  intro ok ls H locs hl hR hq
  exact lv_imul ok.1 ok.2.1 hd (K ok ls H locs hl hR hq)
theorem g_iand {M : MM} {X : Xr} {pc : Nat} {lv : List (Option Value)} {st : List Value} {h : Hp} {k n : Nat} {x y : Int32} (hd : decode (mB M) pc = .ok (.iand, 1))  (K : Go M X (pc + 1) lv (.int (x &&& y) :: st) h k n) : Go M X pc lv (.int y :: .int x :: st) h k n := by
  obtain ⟨G, ⟨p, l, e, R, s, m, args, below, meth, c⟩, Q⟩ := X
  intro ok ls H locs hl hR hq
  exact lv_iand ok.1 ok.2.1 hd (K ok ls H locs hl hR hq)
theorem g_ior {M : MM} {X : Xr} {pc : Nat} {lv : List (Option Value)} {st : List Value} {h : Hp} {k n : Nat} {x y : Int32} (hd : decode (mB M) pc = .ok (.ior, 1))  (K : Go M X (pc + 1) lv (.int (x ||| y) :: st) h k n) : Go M X pc lv (.int y :: .int x :: st) h k n := by
  obtain ⟨G, ⟨p, l, e, R, s, m, args, below, meth, c⟩, Q⟩ := X
  intro ok ls H locs hl hR hq
  exact lv_ior ok.1 ok.2.1 hd (K ok ls H locs hl hR hq)
theorem g_ixor {M : MM} {X : Xr} {pc : Nat} {lv : List (Option Value)} {st : List Value} {h : Hp} {k n : Nat} {x y : Int32} (hd : decode (mB M) pc = .ok (.ixor, 1))  (K : Go M X (pc + 1) lv (.int (x ^^^ y) :: st) h k n) : Go M X pc lv (.int y :: .int x :: st) h k n := by
  obtain ⟨G, ⟨p, l, e, R, s, m, args, below, meth, c⟩, Q⟩ := X
  intro ok ls H locs hl hR hq
  exact lv_ixor ok.1 ok.2.1 hd (K ok ls H locs hl hR hq)
theorem g_idiv {M : MM} {X : Xr} {pc : Nat} {lv : List (Option Value)} {st : List Value} {h : Hp} {k n : Nat} {x y : Int32} (hd : decode (mB M) pc = .ok (.idiv, 1)) (hne : ¬ y = 0) (K : Go M X (pc + 1) lv (.int (x / y) :: st) h k n) : Go M X pc lv (.int y :: .int x :: st) h k n := by
  obtain ⟨G, ⟨p, l, e, R, s, m, args, below, meth, c⟩, Q⟩ := X
  intro ok ls H locs hl hR hq
  exact lv_idiv ok.1 ok.2.1 hd hne (K ok ls H locs hl hR hq)
theorem g_irem {M : MM} {X : Xr} {pc : Nat} {lv : List (Option Value)} {st : List Value} {h : Hp} {k n : Nat} {x y : Int32} (hd : decode (mB M) pc = .ok (.irem, 1)) (hne : ¬ y = 0) (K : Go M X (pc + 1) lv (.int (x - x / y * y) :: st) h k n) : Go M X pc lv (.int y :: .int x :: st) h k n := by
  obtain ⟨G, ⟨p, l, e, R, s, m, args, below, meth, c⟩, Q⟩ := X
  intro ok ls H locs hl hR hq
  exact lv_irem ok.1 ok.2.1 hd hne (K ok ls H locs hl hR hq)
theorem g_ishl {M : MM} {X : Xr} {pc : Nat} {lv : List (Option Value)} {st : List Value} {h : Hp} {k n : Nat} {x y : Int32} (hd : decode (mB M) pc = .ok (.ishl, 1))  (K : Go M X (pc + 1) lv (.int (x <<< (y &&& 31)) :: st) h k n) : Go M X pc lv (.int y :: .int x :: st) h k n := by
  obtain ⟨G, ⟨p, l, e, R, s, m, args, below, meth, c⟩, Q⟩ := X
  intro ok ls H locs hl hR hq
  exact lv_ishl ok.1 ok.2.1 hd (K ok ls H locs hl hR hq)
theorem g_ishr {M : MM} {X : Xr} {pc : Nat} {lv : List (Option Value)} {st : List Value} {h : Hp} {k n : Nat} {x y : Int32} (hd : decode (mB M) pc = .ok (.ishr, 1))  (K : Go M X (pc + 1) lv (.int (x >>> (y &&& 31)) :: st) h k n) : Go M X pc lv (.int y :: .int x :: st) h k n := by
  obtain ⟨G, ⟨p, l, e, R, s, m, args, below, meth, c⟩, Q⟩ := X
  intro ok ls H locs hl hR hq
  exact lv_ishr ok.1 ok.2.1 hd (K ok ls H locs hl hR hq)
theorem g_ladd {M : MM} {X : Xr} {pc : Nat} {lv : List (Option Value)} {st : List Value} {h : Hp} {k n : Nat} {x y : Int64} (hd : decode (mB M) pc = .ok (.ladd, 1))  (K : Go M X (pc + 1) lv (.long (x + y) :: st) h k n) : Go M X pc lv (.long y :: .long x :: st) h k n := by
  obtain ⟨G, ⟨p, l, e, R, s, m, args, below, meth, c⟩, Q⟩ := X
  intro ok ls H locs hl hR hq
  exact lv_ladd ok.1 ok.2.1 hd (K ok ls H locs hl hR hq)
theorem g_lsub {M : MM} {X : Xr} {pc : Nat} {lv : List (Option Value)} {st : List Value} {h : Hp} {k n : Nat} {x y : Int64} (hd : decode (mB M) pc = .ok (.lsub, 1))  (K : Go M X (pc + 1) lv (.long (x - y) :: st) h k n) : Go M X pc lv (.long y :: .long x :: st) h k n := by
  obtain ⟨G, ⟨p, l, e, R, s, m, args, below, meth, c⟩, Q⟩ := X
  intro ok ls H locs hl hR hq
  exact lv_lsub ok.1 ok.2.1 hd (K ok ls H locs hl hR hq)
theorem g_lmul {M : MM} {X : Xr} {pc : Nat} {lv : List (Option Value)} {st : List Value} {h : Hp} {k n : Nat} {x y : Int64} (hd : decode (mB M) pc = .ok (.lmul, 1))  (K : Go M X (pc + 1) lv (.long (x * y) :: st) h k n) : Go M X pc lv (.long y :: .long x :: st) h k n := by
  obtain ⟨G, ⟨p, l, e, R, s, m, args, below, meth, c⟩, Q⟩ := X
  intro ok ls H locs hl hR hq
  exact lv_lmul ok.1 ok.2.1 hd (K ok ls H locs hl hR hq)
theorem g_land {M : MM} {X : Xr} {pc : Nat} {lv : List (Option Value)} {st : List Value} {h : Hp} {k n : Nat} {x y : Int64} (hd : decode (mB M) pc = .ok (.land, 1))  (K : Go M X (pc + 1) lv (.long (x &&& y) :: st) h k n) : Go M X pc lv (.long y :: .long x :: st) h k n := by
  obtain ⟨G, ⟨p, l, e, R, s, m, args, below, meth, c⟩, Q⟩ := X
  intro ok ls H locs hl hR hq
  exact lv_land ok.1 ok.2.1 hd (K ok ls H locs hl hR hq)
theorem g_lor {M : MM} {X : Xr} {pc : Nat} {lv : List (Option Value)} {st : List Value} {h : Hp} {k n : Nat} {x y : Int64} (hd : decode (mB M) pc = .ok (.lor, 1))  (K : Go M X (pc + 1) lv (.long (x ||| y) :: st) h k n) : Go M X pc lv (.long y :: .long x :: st) h k n := by
  obtain ⟨G, ⟨p, l, e, R, s, m, args, below, meth, c⟩, Q⟩ := X
  intro ok ls H locs hl hR hq
  exact lv_lor ok.1 ok.2.1 hd (K ok ls H locs hl hR hq)
theorem g_ldiv {M : MM} {X : Xr} {pc : Nat} {lv : List (Option Value)} {st : List Value} {h : Hp} {k n : Nat} {x y : Int64} (hd : decode (mB M) pc = .ok (.ldiv, 1)) (hne : ¬ y = 0) (K : Go M X (pc + 1) lv (.long (x / y) :: st) h k n) : Go M X pc lv (.long y :: .long x :: st) h k n := by
  obtain ⟨G, ⟨p, l, e, R, s, m, args, below, meth, c⟩, Q⟩ := X
  intro ok ls H locs hl hR hq
  exact lv_ldiv ok.1 ok.2.1 hd hne (K ok ls H locs hl hR hq)
theorem g_lrem {M : MM} {X : Xr} {pc : Nat} {lv : List (Option Value)} {st : List Value} {h : Hp} {k n : Nat} {x y : Int64} (hd : decode (mB M) pc = .ok (.lrem, 1)) (hne : ¬ y = 0) (K : Go M X (pc + 1) lv (.long (x - x / y * y) :: st) h k n) : Go M X pc lv (.long y :: .long x :: st) h k n := by
  obtain ⟨G, ⟨p, l, e, R, s, m, args, below, meth, c⟩, Q⟩ := X
  intro ok ls H locs hl hR hq
  exact lv_lrem ok.1 ok.2.1 hd hne (K ok ls H locs hl hR hq)
theorem g_iushr {M : MM} {X : Xr} {pc : Nat} {lv : List (Option Value)} {st : List Value} {h : Hp} {k n : Nat} {x y v : Int32} (hd : decode (mB M) pc = .ok (.iushr, 1)) (hv : (x.toUInt32 >>> (y.toUInt32 &&& Int32.toUInt32 31)).toInt32 = v) (K : Go M X (pc + 1) lv (.int v :: st) h k n) : Go M X pc lv (.int y :: .int x :: st) h k n := by
  obtain ⟨G, ⟨p, l, e, R, s, m, args, below, meth, c⟩, Q⟩ := X
  intro ok ls H locs hl hR hq
  exact lv_iushr ok.1 ok.2.1 hd hv (K ok ls H locs hl hR hq)
theorem g_ineg {M : MM} {X : Xr} {pc : Nat} {lv : List (Option Value)} {st : List Value} {h : Hp} {k n : Nat} {x : Int32} (hd : decode (mB M) pc = .ok (.ineg, 1)) (K : Go M X (pc + 1) lv (.int (-x) :: st) h k n) : Go M X pc lv (.int x :: st) h k n := by
  obtain ⟨G, ⟨p, l, e, R, s, m, args, below, meth, c⟩, Q⟩ := X
  intro ok ls H locs hl hR hq
  exact lv_ineg ok.1 ok.2.1 hd (K ok ls H locs hl hR hq)
theorem g_lshl {M : MM} {X : Xr} {pc : Nat} {lv : List (Option Value)} {st : List Value} {h : Hp} {k n : Nat} {x v : Int64} {y : Int32} (hd : decode (mB M) pc = .ok (.lshl, 1)) (hv : x <<< (y.toInt64 &&& 63) = v) (K : Go M X (pc + 1) lv (.long v :: st) h k n) : Go M X pc lv (.int y :: .long x :: st) h k n := by
  obtain ⟨G, ⟨p, l, e, R, s, m, args, below, meth, c⟩, Q⟩ := X
  intro ok ls H locs hl hR hq
  exact lv_lshl ok.1 ok.2.1 hd hv (K ok ls H locs hl hR hq)
theorem g_i2l {M : MM} {X : Xr} {pc : Nat} {lv : List (Option Value)} {st : List Value} {h : Hp} {k n : Nat} {x : Int32} (hd : decode (mB M) pc = .ok (.i2l, 1)) (K : Go M X (pc + 1) lv (.long x.toInt64 :: st) h k n) : Go M X pc lv (.int x :: st) h k n := by
  obtain ⟨G, ⟨p, l, e, R, s, m, args, below, meth, c⟩, Q⟩ := X
  intro ok ls H locs hl hR hq
  exact lv_i2l ok.1 ok.2.1 hd rfl (K ok ls H locs hl hR hq)
theorem g_l2i {M : MM} {X : Xr} {pc : Nat} {lv : List (Option Value)} {st : List Value} {h : Hp} {k n : Nat} {x : Int64} (hd : decode (mB M) pc = .ok (.l2i, 1)) (K : Go M X (pc + 1) lv (.int x.toInt32 :: st) h k n) : Go M X pc lv (.long x :: st) h k n := by
  obtain ⟨G, ⟨p, l, e, R, s, m, args, below, meth, c⟩, Q⟩ := X
  intro ok ls H locs hl hR hq
  exact lv_l2i ok.1 ok.2.1 hd rfl (K ok ls H locs hl hR hq)
theorem g_i2c {M : MM} {X : Xr} {pc : Nat} {lv : List (Option Value)} {st : List Value} {h : Hp} {k n : Nat} {x : Int32} (hd : decode (mB M) pc = .ok (.i2c, 1)) (K : Go M X (pc + 1) lv (.int (x.toUInt32 % 65536).toInt32 :: st) h k n) : Go M X pc lv (.int x :: st) h k n := by
  obtain ⟨G, ⟨p, l, e, R, s, m, args, below, meth, c⟩, Q⟩ := X
  intro ok ls H locs hl hR hq
  exact lv_i2c ok.1 ok.2.1 hd rfl (K ok ls H locs hl hR hq)
theorem g_dup {M : MM} {X : Xr} {pc : Nat} {lv : List (Option Value)} {st : List Value} {h : Hp} {k n : Nat} {u : Value} (hd : decode (mB M) pc = .ok (.dup, 1)) (hu : u.category = 1) (K : Go M X (pc + 1) lv (u :: u :: st) h k n) : Go M X pc lv (u :: st) h k n := by
  obtain ⟨G, ⟨p, l, e, R, s, m, args, below, meth, c⟩, Q⟩ := X
  intro ok ls H locs hl hR hq
  exact lv_dup ok.1 ok.2.1 hd hu (K ok ls H locs hl hR hq)
theorem g_pop {M : MM} {X : Xr} {pc : Nat} {lv : List (Option Value)} {st : List Value} {h : Hp} {k n : Nat} {u : Value} (hd : decode (mB M) pc = .ok (.pop, 1)) (hu : u.category = 1) (K : Go M X (pc + 1) lv st h k n) : Go M X pc lv (u :: st) h k n := by
  obtain ⟨G, ⟨p, l, e, R, s, m, args, below, meth, c⟩, Q⟩ := X
  intro ok ls H locs hl hR hq
  exact lv_pop ok.1 ok.2.1 hd hu (K ok ls H locs hl hR hq)
theorem g_pop2 {M : MM} {X : Xr} {pc : Nat} {lv : List (Option Value)} {st : List Value} {h : Hp} {k n : Nat} {u : Value} (hd : decode (mB M) pc = .ok (.pop2, 1)) (hu : u.category = 2) (K : Go M X (pc + 1) lv st h k n) : Go M X pc lv (u :: st) h k n := by
  obtain ⟨G, ⟨p, l, e, R, s, m, args, below, meth, c⟩, Q⟩ := X
  intro ok ls H locs hl hR hq
  exact lv_pop2_2 ok.1 ok.2.1 hd hu (K ok ls H locs hl hR hq)
theorem g_dup_x1 {M : MM} {X : Xr} {pc : Nat} {lv : List (Option Value)} {st : List Value} {h : Hp} {k n : Nat} {u v : Value} (hd : decode (mB M) pc = .ok (.dup_x1, 1)) (hu : u.category = 1) (hv : v.category = 1) (K : Go M X (pc + 1) lv (u :: v :: u :: st) h k n) : Go M X pc lv (u :: v :: st) h k n := by
  obtain ⟨G, ⟨p, l, e, R, s, m, args, below, meth, c⟩, Q⟩ := X
  intro ok ls H locs hl hR hq
  exact lv_dup_x1 ok.1 ok.2.1 hd hu hv (K ok ls H locs hl hR hq)
theorem g_dup2 {M : MM} {X : Xr} {pc : Nat} {lv : List (Option Value)} {st : List Value} {h : Hp} {k n : Nat} {u v : Value} (hd : decode (mB M) pc = .ok (.dup2, 1)) (hu : u.category = 1) (hv : v.category = 1) (K : Go M X (pc + 1) lv (u :: v :: u :: v :: st) h k n) : Go M X pc lv (u :: v :: st) h k n := by
  obtain ⟨G, ⟨p, l, e, R, s, m, args, below, meth, c⟩, Q⟩ := X
  intro ok ls H locs hl hR hq
  exact lv_dup2_11 ok.1 ok.2.1 hd hu hv (K ok ls H locs hl hR hq)
theorem g_if_eq {M : MM} {X : Xr} {pc : Nat} {lv : List (Option Value)} {st : List Value} {h : Hp} {k n : Nat} {x : Int32} {off : Int} {tgt : Nat} (hd : decode (mB M) pc = .ok (.ifCond .eq off, 3)) (ht : (pc : Int) + off = (tgt : Int)) (K1 : x = 0 → Go M X tgt lv st h k n) (K2 : ¬ x = 0 → Go M X (pc + 3) lv st h k n) : Go M X pc lv (.int x :: st) h k n := by
  obtain ⟨G, ⟨p, l, e, R, s, m, args, below, meth, c⟩, Q⟩ := X
  intro ok ls H locs hl hR hq
  exact lv_if_eq ok.1 ok.2.1 hd ht (fun z => K1 z ok ls H locs hl hR hq) (fun z => K2 z ok ls H locs hl hR hq)
theorem g_if_ne {M : MM} {X : Xr} {pc : Nat} {lv : List (Option Value)} {st : List Value} {h : Hp} {k n : Nat} {x : Int32} {off : Int} {tgt : Nat} (hd : decode (mB M) pc = .ok (.ifCond .ne off, 3)) (ht : (pc : Int) + off = (tgt : Int)) (K1 : ¬ x = 0 → Go M X tgt lv st h k n) (K2 : x = 0 → Go M X (pc + 3) lv st h k n) : Go M X pc lv (.int x :: st) h k n := by
  obtain ⟨G, ⟨p, l, e, R, s, m, args, below, meth, c⟩, Q⟩ := X
  intro ok ls H locs hl hR hq
  exact lv_if_ne ok.1 ok.2.1 hd ht (fun z => K1 z ok ls H locs hl hR hq) (fun z => K2 z ok ls H locs hl hR hq)
theorem g_if_lt {M : MM} {X : Xr} {pc : Nat} {lv : List (Option Value)} {st : List Value} {h : Hp} {k n : Nat} {x : Int32} {off : Int} {tgt : Nat} (hd : decode (mB M) pc = .ok (.ifCond .lt off, 3)) (ht : (pc : Int) + off = (tgt : Int)) (K1 : x < 0 → Go M X tgt lv st h k n) (K2 : ¬ x < 0 → Go M X (pc + 3) lv st h k n) : Go M X pc lv (.int x :: st) h k n := by
  obtain ⟨G, ⟨p, l, e, R, s, m, args, below, meth, c⟩, Q⟩ := X
  intro ok ls H locs hl hR hq
  exact lv_if_lt ok.1 ok.2.1 hd ht (fun z => K1 z ok ls H locs hl hR hq) (fun z => K2 z ok ls H locs hl hR hq)
theorem g_if_ge {M : MM} {X : Xr} {pc : Nat} {lv : List (Option Value)} {st : List Value} {h : Hp} {k n : Nat} {x : Int32} {off : Int} {tgt : Nat} (hd : decode (mB M) pc = .ok (.ifCond .ge off, 3)) (ht : (pc : Int) + off = (tgt : Int)) (K1 : 0 ≤ x → Go M X tgt lv st h k n) (K2 : ¬ 0 ≤ x → Go M X (pc + 3) lv st h k n) : Go M X pc lv (.int x :: st) h k n := by
  obtain ⟨G, ⟨p, l, e, R, s, m, args, below, meth, c⟩, Q⟩ := X
  intro ok ls H locs hl hR hq
  exact lv_if_ge ok.1 ok.2.1 hd ht (fun z => K1 z ok ls H locs hl hR hq) (fun z => K2 z ok ls H locs hl hR hq)
theorem g_if_gt {M : MM} {X : Xr} {pc : Nat} {lv : List (Option Value)} {st : List Value} {h : Hp} {k n : Nat} {x : Int32} {off : Int} {tgt : Nat} (hd : decode (mB M) pc = .ok (.ifCond .gt off, 3)) (ht : (pc : Int) + off = (tgt : Int)) (K1 : 0 < x → Go M X tgt lv st h k n) (K2 : ¬ 0 < x → Go M X (pc + 3) lv st h k n) : Go M X pc lv (.int x :: st) h k n := by
  obtain ⟨G, ⟨p, l, e, R, s, m, args, below, meth, c⟩, Q⟩ := X
  intro ok ls H locs hl hR hq
  exact lv_if_gt ok.1 ok.2.1 hd ht (fun z => K1 z ok ls H locs hl hR hq) (fun z => K2 z ok ls H locs hl hR hq)
theorem g_if_le {M : MM} {X : Xr} {pc : Nat} {lv : List (Option Value)} {st : List Value} {h : Hp} {k n : Nat} {x : Int32} {off : Int} {tgt : Nat} (hd : decode (mB M) pc = .ok (.ifCond .le off, 3)) (ht : (pc : Int) + off = (tgt : Int)) (K1 : x ≤ 0 → Go M X tgt lv st h k n) (K2 : ¬ x ≤ 0 → Go M X (pc + 3) lv st h k n) : Go M X pc lv (.int x :: st) h k n := by
  obtain ⟨G, ⟨p, l, e, R, s, m, args, below, meth, c⟩, Q⟩ := X
  intro ok ls H locs hl hR hq
  exact lv_if_le ok.1 ok.2.1 hd ht (fun z => K1 z ok ls H locs hl hR hq) (fun z => K2 z ok ls H locs hl hR hq)
theorem g_icmp_eq {M : MM} {X : Xr} {pc : Nat} {lv : List (Option Value)} {st : List Value} {h : Hp} {k n : Nat} {x y : Int32} {off : Int} {tgt : Nat} (hd : decode (mB M) pc = .ok (.if_icmp .eq off, 3)) (ht : (pc : Int) + off = (tgt : Int)) (K1 : x = y → Go M X tgt lv st h k n) (K2 : ¬ x = y → Go M X (pc + 3) lv st h k n) : Go M X pc lv (.int y :: .int x :: st) h k n := by
  obtain ⟨G, ⟨p, l, e, R, s, m, args, below, meth, c⟩, Q⟩ := X
  intro ok ls H locs hl hR hq
  exact lv_icmp_eq ok.1 ok.2.1 hd ht (fun z => K1 z ok ls H locs hl hR hq) (fun z => K2 z ok ls H locs hl hR hq)
theorem g_icmp_ne {M : MM} {X : Xr} {pc : Nat} {lv : List (Option Value)} {st : List Value} {h : Hp} {k n : Nat} {x y : Int32} {off : Int} {tgt : Nat} (hd : decode (mB M) pc = .ok (.if_icmp .ne off, 3)) (ht : (pc : Int) + off = (tgt : Int)) (K1 : ¬ x = y → Go M X tgt lv st h k n) (K2 : x = y → Go M X (pc + 3) lv st h k n) : Go M X pc lv (.int y :: .int x :: st) h k n := by
  obtain ⟨G, ⟨p, l, e, R, s, m, args, below, meth, c⟩, Q⟩ := X
  intro ok ls H locs hl hR hq
  exact lv_icmp_ne ok.1 ok.2.1 hd ht (fun z => K1 z ok ls H locs hl hR hq) (fun z => K2 z ok ls H locs hl hR hq)
theorem g_icmp_lt {M : MM} {X : Xr} {pc : Nat} {lv : List (Option Value)} {st : List Value} {h : Hp} {k n : Nat} {x y : Int32} {off : Int} {tgt : Nat} (hd : decode (mB M) pc = .ok (.if_icmp .lt off, 3)) (ht : (pc : Int) + off = (tgt : Int)) (K1 : x < y → Go M X tgt lv st h k n) (K2 : ¬ x < y → Go M X (pc + 3) lv st h k n) : Go M X pc lv (.int y :: .int x :: st) h k n := by
  obtain ⟨G, ⟨p, l, e, R, s, m, args, below, meth, c⟩, Q⟩ := X
  intro ok ls H locs hl hR hq
  exact lv_icmp_lt ok.1 ok.2.1 hd ht (fun z => K1 z ok ls H locs hl hR hq) (fun z => K2 z ok ls H locs hl hR hq)
theorem g_icmp_ge {M : MM} {X : Xr} {pc : Nat} {lv : List (Option Value)} {st : List Value} {h : Hp} {k n : Nat} {x y : Int32} {off : Int} {tgt : Nat} (hd : decode (mB M) pc = .ok (.if_icmp .ge off, 3)) (ht : (pc : Int) + off = (tgt : Int)) (K1 : y ≤ x → Go M X tgt lv st h k n) (K2 : ¬ y ≤ x → Go M X (pc + 3) lv st h k n) : Go M X pc lv (.int y :: .int x :: st) h k n := by
  obtain ⟨G, ⟨p, l, e, R, s, m, args, below, meth, c⟩, Q⟩ := X
  intro ok ls H locs hl hR hq
  exact lv_icmp_ge ok.1 ok.2.1 hd ht (fun z => K1 z ok ls H locs hl hR hq) (fun z => K2 z ok ls H locs hl hR hq)
theorem g_icmp_gt {M : MM} {X : Xr} {pc : Nat} {lv : List (Option Value)} {st : List Value} {h : Hp} {k n : Nat} {x y : Int32} {off : Int} {tgt : Nat} (hd : decode (mB M) pc = .ok (.if_icmp .gt off, 3)) (ht : (pc : Int) + off = (tgt : Int)) (K1 : y < x → Go M X tgt lv st h k n) (K2 : ¬ y < x → Go M X (pc + 3) lv st h k n) : Go M X pc lv (.int y :: .int x :: st) h k n := by
  obtain ⟨G, ⟨p, l, e, R, s, m, args, below, meth, c⟩, Q⟩ := X
  intro ok ls H locs hl hR hq
  exact lv_icmp_gt ok.1 ok.2.1 hd ht (fun z => K1 z ok ls H locs hl hR hq) (fun z => K2 z ok ls H locs hl hR hq)
theorem g_icmp_le {M : MM} {X : Xr} {pc : Nat} {lv : List (Option Value)} {st : List Value} {h : Hp} {k n : Nat} {x y : Int32} {off : Int} {tgt : Nat} (hd : decode (mB M) pc = .ok (.if_icmp .le off, 3)) (ht : (pc : Int) + off = (tgt : Int)) (K1 : x ≤ y → Go M X tgt lv st h k n) (K2 : ¬ x ≤ y → Go M X (pc + 3) lv st h k n) : Go M X pc lv (.int y :: .int x :: st) h k n := by
  obtain ⟨G, ⟨p, l, e, R, s, m, args, below, meth, c⟩, Q⟩ := X
  intro ok ls H locs hl hR hq
  exact lv_icmp_le ok.1 ok.2.1 hd ht (fun z => K1 z ok ls H locs hl hR hq) (fun z => K2 z ok ls H locs hl hR hq)
theorem g_acmp_eq {M : MM} {X : Xr} {pc : Nat} {lv : List (Option Value)} {st : List Value} {h : Hp} {k n : Nat} {x y : Option Nat} {off : Int} {tgt : Nat} (hd : decode (mB M) pc = .ok (.if_acmp .eq off, 3)) (ht : (pc : Int) + off = (tgt : Int)) (K1 : x = y → Go M X tgt lv st h k n) (K2 : ¬ x = y → Go M X (pc + 3) lv st h k n) : Go M X pc lv (va_rf y :: va_rf x :: st) h k n := by
  obtain ⟨G, ⟨p, l, e, R, s, m, args, below, meth, c⟩, Q⟩ := X
  intro ok ls H locs hl hR hq
  exact lv_acmp_eq ok.1 ok.2.1 hd ht (fun z => K1 z ok ls H locs hl hR hq) (fun z => K2 z ok ls H locs hl hR hq)
theorem g_acmp_ne {M : MM} {X : Xr} {pc : Nat} {lv : List (Option Value)} {st : List Value} {h : Hp} {k n : Nat} {x y : Option Nat} {off : Int} {tgt : Nat} (hd : decode (mB M) pc = .ok (.if_acmp .ne off, 3)) (ht : (pc : Int) + off = (tgt : Int)) (K1 : ¬ x = y → Go M X tgt lv st h k n) (K2 : x = y → Go M X (pc + 3) lv st h k n) : Go M X pc lv (va_rf y :: va_rf x :: st) h k n := by
  obtain ⟨G, ⟨p, l, e, R, s, m, args, below, meth, c⟩, Q⟩ := X
  intro ok ls H locs hl hR hq
  exact lv_acmp_ne ok.1 ok.2.1 hd ht (fun z => K1 z ok ls H locs hl hR hq) (fun z => K2 z ok ls H locs hl hR hq)
theorem g_goto {M : MM} {X : Xr} {pc : Nat} {lv : List (Option Value)} {st : List Value} {h : Hp} {k n : Nat} {off : Int} {tgt : Nat} (hd : decode (mB M) pc = .ok (.goto off, 3)) (ht : (pc : Int) + off = (tgt : Int)) (K : Go M X tgt lv st h k n) : Go M X pc lv st h k n := by
  obtain ⟨G, ⟨p, l, e, R, s, m, args, below, meth, c⟩, Q⟩ := X
  intro ok ls H locs hl hR hq
  exact lv_goto ok.1 ok.2.1 hd ht (K ok ls H locs hl hR hq)
theorem g_ifnull {M : MM} {X : Xr} {pc : Nat} {lv : List (Option Value)} {st : List Value} {h : Hp} {k n : Nat} {off : Int} {tgt : Nat} {x : Option Nat} (hd : decode (mB M) pc = .ok (.ifnull off, 3)) (ht : (pc : Int) + off = (tgt : Int)) (K1 : x = none → Go M X tgt lv st h k n) (K2 : ∀ a, x = some a → Go M X (pc + 3) lv st h k n) : Go M X pc lv (va_rf x :: st) h k n := by
  obtain ⟨G, ⟨p, l, e, R, s, m, args, below, meth, c⟩, Q⟩ := X
  intro ok ls H locs hl hR hq
  cases x with
  | none => exact lv_ifnullN ok.1 ok.2.1 hd ht (K1 rfl ok ls H locs hl hR hq)
  | some a => exact lv_ifnull ok.1 ok.2.1 hd (K2 a rfl ok ls H locs hl hR hq)
theorem g_ifnonnull {M : MM} {X : Xr} {pc : Nat} {lv : List (Option Value)} {st : List Value} {h : Hp} {k n : Nat} {off : Int} {tgt : Nat} {x : Option Nat} (hd : decode (mB M) pc = .ok (.ifnonnull off, 3)) (ht : (pc : Int) + off = (tgt : Int)) (K1 : ∀ a, x = some a → Go M X tgt lv st h k n) (K2 : x = none → Go M X (pc + 3) lv st h k n) : Go M X pc lv (va_rf x :: st) h k n := by
  obtain ⟨G, ⟨p, l, e, R, s, m, args, below, meth, c⟩, Q⟩ := X
  intro ok ls H locs hl hR hq
  cases x with
  | none => exact lv_ifnonnullN ok.1 ok.2.1 hd (K2 rfl ok ls H locs hl hR hq)
  | some a => exact lv_ifnonnull ok.1 ok.2.1 hd ht (K1 a rfl ok ls H locs hl hR hq)
theorem g_lcmp {M : MM} {X : Xr} {pc : Nat} {lv : List (Option Value)} {st : List Value} {h : Hp} {k n : Nat} {x y : Int64} (hd : decode (mB M) pc = .ok (.lcmp, 1)) (K : Go M X (pc + 1) lv (.int (lg_cmp x y) :: st) h k n) : Go M X pc lv (.long y :: .long x :: st) h k n := by
  obtain ⟨G, ⟨p, l, e, R, s, m, args, below, meth, c⟩, Q⟩ := X
  intro ok ls H locs hl hR hq
  exact W.lcmp ok.1 ok.2.1 hd (K ok ls H locs hl hR hq)
theorem g_tabOut {M : MM} {X : Xr} {pc : Nat} {lv : List (Option Value)} {st : List Value} {h : Hp} {k n : Nat} {d lo hi : Int} {offs : Array Int} {len : Nat} {x : Int32} {tgt : Nat} (hd : decode (mB M) pc = .ok (.tableswitch d lo hi offs, len)) (hx : x.toInt < lo ∨ hi < x.toInt) (ht : (pc : Int) + d = (tgt : Int)) (K : Go M X tgt lv st h k n) : Go M X pc lv (.int x :: st) h k n := by
  obtain ⟨G, ⟨p, l, e, R, s, m, args, below, meth, c⟩, Q⟩ := X
  intro ok ls H locs hl hR hq
  exact lv_tableOut ok.1 ok.2.1 hd hx ht (K ok ls H locs hl hR hq)
theorem g_tabIn {M : MM} {X : Xr} {pc : Nat} {lv : List (Option Value)} {st : List Value} {h : Hp} {k n : Nat} {d lo hi : Int} {offs : Array Int} {len : Nat} {x : Int32} {off : Int} {tgt : Nat} (hd : decode (mB M) pc = .ok (.tableswitch d lo hi offs, len)) (h1 : ¬ x.toInt < lo) (h2 : ¬ hi < x.toInt) (ho : offs[(x.toInt - lo).toNat]? = some off) (ht : (pc : Int) + off = (tgt : Int)) (K : Go M X tgt lv st h k n) : Go M X pc lv (.int x :: st) h k n := by
  obtain ⟨G, ⟨p, l, e, R, s, m, args, below, meth, c⟩, Q⟩ := X
  intro ok ls H locs hl hR hq
  exact lv_tableIn ok.1 ok.2.1 hd h1 h2 ho ht (K ok ls H locs hl hR hq)
theorem g_lookup {M : MM} {X : Xr} {pc : Nat} {lv : List (Option Value)} {st : List Value} {h : Hp} {k n : Nat} {d : Int} {ps : Array (Int × Int)} {len : Nat} {x : Int32} {off : Int} {tgt : Nat} (hd : decode (mB M) pc = .ok (.lookupswitch d ps, len)) (hp : (ps.toList.zip (ps.toList.drop 1)).all (fun (a, next) => a.1 < next.1) = true) (ho : Op.lookupswitch.offset ps.toList d x.toInt = off) (ht : (pc : Int) + off = (tgt : Int)) (K : Go M X tgt lv st h k n) : Go M X pc lv (.int x :: st) h k n := by
  obtain ⟨G, ⟨p, l, e, R, s, m, args, below, meth, c⟩, Q⟩ := X
  intro ok ls H locs hl hR hq
  exact lv_lookup ok.1 ok.2.1 hd hp ho ht (K ok ls H locs hl hR hq)
/-- a name for what lies on top -/
theorem g_topi {M : MM} {X : Xr} {pc : Nat} {lv : List (Option Value)} {st : List Value} {h : Hp} {k n : Nat} {x : Int32} (K : ∀ y : Int32, y = x → Go M X pc lv (.int y :: st) h k n) : Go M X pc lv (.int x :: st) h k n := K x rfl
theorem g_topl {M : MM} {X : Xr} {pc : Nat} {lv : List (Option Value)} {st : List Value} {h : Hp} {k n : Nat} {x : Int64} (K : ∀ y : Int64, y = x → Go M X pc lv (.long y :: st) h k n) : Go M X pc lv (.long x :: st) h k n := K x rfl
theorem g_eqi {M : MM} {X : Xr} {pc : Nat} {lv : List (Option Value)} {st : List Value} {h : Hp} {k n : Nat} {x y : Int32} (e : x = y) (K : Go M X pc lv (.int y :: st) h k n) : Go M X pc lv (.int x :: st) h k n := e ▸ K
theorem g_eql {M : MM} {X : Xr} {pc : Nat} {lv : List (Option Value)} {st : List Value} {h : Hp} {k n : Nat} {x y : Int64} (e : x = y) (K : Go M X pc lv (.long y :: st) h k n) : Go M X pc lv (.long x :: st) h k n := e ▸ K
theorem g_eqr {M : MM} {X : Xr} {pc : Nat} {lv : List (Option Value)} {st : List Value} {h : Hp} {k n : Nat} {x : Option Nat} {a : Nat} (e : x = some a) (K : Go M X pc lv (.ref a :: st) h k n) : Go M X pc lv (va_rf x :: st) h k n := by subst e; exact K
theorem g_eqn {M : MM} {X : Xr} {pc : Nat} {lv : List (Option Value)} {st : List Value} {h : Hp} {k n : Nat} {x : Option Nat} (e : x = none) (K : Go M X pc lv (.null :: st) h k n) : Go M X pc lv (va_rf x :: st) h k n := by subst e; exact K
theorem g_wide {M : MM} {X : Xr} {pc : Nat} {lv : List (Option Value)} {st : List Value} {h : Hp} {k n : Nat} {k' n' : Nat} (h1 : k ≤ k') (h2 : n ≤ n') (K : Go M X pc lv st h k' n') : Go M X pc lv st h k n := by
  obtain ⟨G, ⟨p, l, e, R, s, m, args, below, meth, c⟩, Q⟩ := X
  intro ok ls H locs hl hR hq
  exact W.widen h1 h2 (K ok ls H locs hl hR hq)
end
section
/-! cells -/
theorem Rf.set {G : Gx} {h h' : Hp} {H H' : Heap} {a : Nat} {kd : Nat × Nat} (R : Rf G h H) (hs : hS h a = some kd) (hS' : hS h' = hS h) (hoff : ∀ b, b ≠ a → hI h' b = hI h b ∧ hL h' b = hL h b ∧ hR h' b = hR h b) {c' : Cell} (hc' : H'[a]? = some c') (hok : okC G (hI h' a) (hL h' a) (hR h' a) kd c') (hsz : H'.size = H.size) (ho : ∀ q, q ≠ a → H'[q]? = H[q]?) : Rf G h' H' ∧ G.1.heap.size ≤ a := by
  obtain ⟨c, hc, -, hB⟩ := R.1 a kd hs
  have hlt : a < H.size := (Array.getElem?_eq_some_iff.mp hc).1
  refine ⟨⟨fun b kd' hb => ?_, fun b hb => ?_, fun q hq => ?_, by rw [hsz]; exact R.2.2.2⟩, hB⟩
  · by_cases e : b = a
    · subst e
      rw [hS', hs] at hb
      cases hb
      exact ⟨c', hc', hok, hB⟩
    · obtain ⟨c2, e1, e2, e3⟩ := R.1 b kd' (by rw [← hS']; exact hb)
      obtain ⟨f1, f2, f3⟩ := hoff b e
      exact ⟨c2, (ho b e).trans e1, by rw [f1, f2, f3]; exact e2, e3⟩
  · have e : b ≠ a := by omega
    obtain ⟨f1, f2, f3⟩ := hoff b e
    rw [f1, f2, f3]
    exact R.2.1 b (by omega)
  · rw [ho q (by omega)]
    exact R.2.2.1 q hq
theorem Rf.push {G : Gx} {h : Hp} {H H' : Heap} {kd : Nat × Nat} (R : Rf G h H) {c' : Cell} (hc' : H'[H.size]? = some c') (hok : okC G (fun _ => 0) (fun _ => 0) (fun _ => none) kd c') (hsz : H'.size = H.size + 1) (ho : ∀ q, q < H.size → H'[q]? = H[q]?) :
    Rf G (pN h H.size kd) H' ∧ hS h H.size = none ∧ (∀ j, hI h H.size j = 0) ∧ (∀ j, hL h H.size j = 0) ∧ (∀ j, hR h H.size j = none) := by
  obtain ⟨z1, z2, z3⟩ := R.2.1 H.size (Nat.le_refl _)
  have hn : hS h H.size = none := by
    cases hx : hS h H.size with
    | none => rfl
    | some kd =>
      obtain ⟨c, hc, -⟩ := R.1 _ _ hx
      have := (Array.getElem?_eq_some_iff.mp hc).1
      omega
  refine ⟨⟨fun b kd' hb => ?_, fun b hb => R.2.1 b (by omega), fun q hq => ?_, by have := R.2.2.2; omega⟩, hn, z1, z2, z3⟩
  · by_cases e : b = H.size
    · subst e
      have hb2 : some kd = some kd' := by
        have := hb
        simp only [hS, pN, if_pos] at this
        exact this
      cases hb2
      refine ⟨c', hc', ?_, R.2.2.2⟩
      have e1 : hI (pN h H.size kd) H.size = fun _ => 0 := funext z1
      have e2 : hL (pN h H.size kd) H.size = fun _ => 0 := funext z2
      have e3 : hR (pN h H.size kd) H.size = fun _ => none := funext z3
      rw [e1, e2, e3]
      exact hok
    · have hb2 : hS h b = some kd' := by
        have := hb
        simp only [hS, pN, if_neg e] at this
        exact this
      obtain ⟨c2, e1, e2, e3⟩ := R.1 b kd' hb2
      have hlt : b < H.size := (Array.getElem?_eq_some_iff.mp e1).1
      exact ⟨c2, (ho b hlt).trans e1, e2, e3⟩
  · rw [ho q (by have := R.2.2.2; omega)]
    exact R.2.2.1 q hq
theorem fvI {i : Nat → Int32} {l : Nat → Int64} {r : Nat → Option Nat} {k : Nat} (d : Nat → String) (hd : d k = "I" ∨ d k = "Z") (x : Int32) (j : Nat) : fv (va_up i k x) l r j (d j) = updV (fun j => fv i l r j (d j)) k (.int x) j := by
  by_cases e : j = k
  · subst e
    have h1 : d j ≠ "J" := by rcases hd with q | q <;> rw [q] <;> decide
    simp [fv, updV, va_up, h1, hd]
  · simp [fv, updV, va_up, e]
theorem fvL {i : Nat → Int32} {l : Nat → Int64} {r : Nat → Option Nat} {k : Nat} (d : Nat → String) (hd : d k = "J") (x : Int64) (j : Nat) : fv i (va_up l k x) r j (d j) = updV (fun j => fv i l r j (d j)) k (.long x) j := by
  by_cases e : j = k
  · subst e
    simp [fv, updV, va_up, hd]
  · simp [fv, updV, va_up, e]
theorem fvR {i : Nat → Int32} {l : Nat → Int64} {r : Nat → Option Nat} {k : Nat} (d : Nat → String) (hd : ¬ d k = "J" ∧ ¬ (d k = "I" ∨ d k = "Z")) (x : Option Nat) (j : Nat) : fv i l (va_up r k x) j (d j) = updV (fun j => fv i l r j (d j)) k (va_rf x) j := by
  by_cases e : j = k
  · subst e
    simp [fv, updV, va_up, hd.1, hd.2]
  · simp [fv, updV, va_up, e]
/-- a field's entry in the pool of M's class -/
def FL (own : String) (idx ci k : Nat) (t : String) : Prop := ∃ (q : vw_C) (ref : String), zCL[ci]? = some q ∧ k < q.2.2 ∧ (q.2.1 k).2.2.1 = t ∧ (ref = (q.2.1 k).1 ∨ Cond.sameField ref (q.2.1 k).1 (q.2.1 k).2.1 (q.2.1 k).2.2.1 ∈ lw_tbl) ∧ (Cond.fieldLink own idx ref (q.2.1 k).2.1 (q.2.1 k).2.2.1 ∈ lw_tbl ∨ ∃ host, Cond.fieldLinkNest own idx ref (q.2.1 k).2.1 (q.2.1 k).2.2.1 host ∈ lw_tbl)
theorem ok_w {G : Gx} {s : State} {A0 args : Array Value} (hw : ∀ w ∈ lw_tbl, w.before A0 G.1 = true) (hW : G.1.WarmedH s.vm) {w : Cond} (hin : w ∈ lw_tbl) (hg : goodWord w = true) : w.before args s = true := word_at hW (good_of_word hg) (hw w hin)
theorem ok_fn {G : Gx} {s : State} {A0 args : Array Value} (hw : ∀ w ∈ lw_tbl, w.before A0 G.1 = true) (hW : G.1.WarmedH s.vm) {a : String} {i : Nat} {b n d h : String} (hin : Cond.fieldLinkNest a i b n d h ∈ lw_tbl) : (Cond.fieldLinkNest a i b n d h).before args s = true := va_Nw.use rfl (va_Nw.warmF hW (va_Nw.of rfl (hw _ hin)))
theorem ok_mn {G : Gx} {s : State} {A0 args : Array Value} (hw : ∀ w ∈ lw_tbl, w.before A0 G.1 = true) (hW : G.1.WarmedH s.vm) {a : String} {i : Nat} {x : MethodName} {h : String} (hin : Cond.methodLinkNest a i x h ∈ lw_tbl) : (Cond.methodLinkNest a i x h).before args s = true := va_Nw.use rfl (va_Nw.warmM hW (va_Nw.of rfl (hw _ hin)))
theorem okO_c {G : Gx} {h : Hp} {H : Heap} {a ci z : Nat} (R : Rf G h H) (hs : hS h a = some (ci + 10, z)) {q : vw_C} (hq : zCL[ci]? = some q) : ∃ c : Cell, H[a]? = some c ∧ c.cls = G.2.1.1 ci ∧ c.vm = .none ∧ ∀ k, k < q.2.2 → c.slots[G.2.1.2 ci k]? = some (fv (hI h a) (hL h a) (hR h a) k (q.2.1 k).2.2.1) := by
  obtain ⟨c, hc, hok, -⟩ := R.1 a _ hs
  obtain ⟨q', hq', e1, e2, e3⟩ := hok.2.2.2.2 ci rfl
  cases hq.symm.trans hq'
  exact ⟨c, hc, e1, e2, e3⟩
section HR
variable {M : MM} {X : Xr} {pc : Nat} {lv : List (Option Value)} {st : List Value} {h : Hp} {k n : Nat}
theorem g_get {idx ci kf a z : Nat} {t : String} (hd : decode (mB M) pc = .ok (.getfield idx, 3)) (hf : FL (mO M) idx ci kf t) (hs : hS h a = some (ci + 10, z)) (K : Go M X (pc + 3) lv (fv (hI h a) (hL h a) (hR h a) kf t :: st) h k n) : Go M X pc lv (.ref a :: st) h k n := by
  obtain ⟨G, ⟨p, l, e, R, s, m, args, below, meth, c⟩, Q⟩ := X
  intro ok ls H locs hl hRf hq
  obtain ⟨q, ref, hq1, hk, rfl, hsm, hlk⟩ := hf
  obtain ⟨cc, hc, e1, e2, e3⟩ := okO_c hRf hs hq1
  obtain ⟨o1, o2, o3, o4, o5, o6, o7, hW, A0, hw, hcl, hst⟩ := id ok
  obtain ⟨hKn, hin, -, -⟩ := hcl ci q hq1
  obtain ⟨hSl, hfc, kC, hkC, hkind⟩ := u_Kn_moved hW.alike hKn
  obtain ⟨cf, kf', fi, f, hi, hsl⟩ := hSl kf hk
  have hlay := (u_lays hw hin hk).imp (word_at (a' := args) (U := s) hW (Or.inl rfl)) (word_at (a' := args) (U := s) hW (Or.inl rfl))
  have hsta := (u_facts hfc hkC hlay hi).1
  have hi2 : s.fieldFound? ref (q.2.1 kf).2.1 (q.2.1 kf).2.2.1 = some (cf, kf', fi, f) := by
    rcases hsm with rfl | hsm
    · exact hi
    · exact u_same (ok_w (args := args) hw hW hsm rfl) _ hi
  have hsv : cc.slots[f.slot]? = some (fv (hI h a) (hL h a) (hR h a) kf (q.2.1 kf).2.2.1) := by rw [hsl]; exact e3 kf hk
  rcases hlk with hlk | ⟨host, hlk⟩
  · exact W.getf o1 o2 o4 (ok_w hw hW hlk rfl) hi2 hsta hc (by rw [e2]; exact fun z => by cases z) hsv rfl rfl hd (K ok ls H locs hl hRf hq)
  · exact va_Wgetf o1 o2 o4 (ok_fn hw hW hlk) hi2 hsta hc (by rw [e2]; exact fun z => by cases z) hsv rfl rfl hd (K ok ls H locs hl hRf hq)
theorem g_getI {idx ci kf a z : Nat} (hd : decode (mB M) pc = .ok (.getfield idx, 3)) (hf : FL (mO M) idx ci kf "I") (hs : hS h a = some (ci + 10, z)) (K : Go M X (pc + 3) lv (.int (hI h a kf) :: st) h k n) : Go M X pc lv (.ref a :: st) h k n := g_get hd hf hs K
theorem g_getZ {idx ci kf a z : Nat} (hd : decode (mB M) pc = .ok (.getfield idx, 3)) (hf : FL (mO M) idx ci kf "Z") (hs : hS h a = some (ci + 10, z)) (K : Go M X (pc + 3) lv (.int (hI h a kf) :: st) h k n) : Go M X pc lv (.ref a :: st) h k n := g_get hd hf hs K
theorem g_getJ {idx ci kf a z : Nat} (hd : decode (mB M) pc = .ok (.getfield idx, 3)) (hf : FL (mO M) idx ci kf "J") (hs : hS h a = some (ci + 10, z)) (K : Go M X (pc + 3) lv (.long (hL h a kf) :: st) h k n) : Go M X pc lv (.ref a :: st) h k n := g_get hd hf hs K
theorem g_getR {idx ci kf a z : Nat} {t : String} (hd : decode (mB M) pc = .ok (.getfield idx, 3)) (hf : FL (mO M) idx ci kf t) (hs : hS h a = some (ci + 10, z)) (ht : ¬ t = "J" ∧ ¬ (t = "I" ∨ t = "Z")) (K : Go M X (pc + 3) lv (va_rf (hR h a kf) :: st) h k n) : Go M X pc lv (.ref a :: st) h k n := g_get hd hf hs (by simp only [fv, if_neg ht.1, if_neg ht.2]; exact K)
/-- a store into a field; fin: of a final one, in its constructor -/
def FinOk (M : MM) (ci kf : Nat) : Prop := ∃ q : vw_C, zCL[ci]? = some q ∧ ((q.2.1 kf).2.2.2 = false ∨ ((q.2.1 kf).2.2.2 = true ∧ (mY M).name = "<init>" ∧ (q.2.1 kf).1 = mO M))
theorem g_put {idx ci kf a z : Nat} {t : String} {v : Value} {h' : Hp} (hd : decode (mB M) pc = .ok (.putfield idx, 3)) (hf : FL (mO M) idx ci kf t) (hfin : FinOk M ci kf) (hs : hS h a = some (ci + 10, z)) {ty : FieldType} (hty : parseFieldDescriptor t = some ty) (hn : narrow ty v = v) (hfit : fits ty v = true)
    (hS' : hS h' = hS h) (hoff : ∀ b, b ≠ a → hI h' b = hI h b ∧ hL h' b = hL h b ∧ hR h' b = hR h b) (hnew : ∀ (d : Nat → String), d kf = t → ∀ j, fv (hI h' a) (hL h' a) (hR h' a) j (d j) = updV (fun j => fv (hI h a) (hL h a) (hR h a) j (d j)) kf v j) (K : Go M X (pc + 3) lv st h' k n) : Go M X pc lv (v :: .ref a :: st) h k n := by
  obtain ⟨G, ⟨p, l, e, R, s, m, args, below, meth, c⟩, Q⟩ := X
  intro ok ls H locs hl hRf hq
  obtain ⟨q, ref, hq1, hk, rfl, hsm, hlk⟩ := hf
  obtain ⟨cc, hc, e1, e2, e3⟩ := okO_c hRf hs hq1
  obtain ⟨o1, o2, o3, o4, o5, o6, o7, hW, A0, hw, hcl, hst⟩ := id ok
  obtain ⟨hKn, hin, -, hap⟩ := hcl ci q hq1
  obtain ⟨hSl, hfc, kC, hkC, hkind⟩ := u_Kn_moved hW.alike hKn
  obtain ⟨cf, kf', fi, f, hi, hsl⟩ := hSl kf hk
  have hlay := (u_lays hw hin hk).imp (word_at (a' := args) (U := s) hW (Or.inl rfl)) (word_at (a' := args) (U := s) hW (Or.inl rfl))
  have hsta := (u_facts hfc hkC hlay hi).1
  have hfits := u_fits hfc hkC hkind hlay hi hty hn hfit
  have hi2 : s.fieldFound? ref (q.2.1 kf).2.1 (q.2.1 kf).2.2.1 = some (cf, kf', fi, f) := by
    rcases hsm with rfl | hsm
    · exact hi
    · exact u_same (ok_w (args := args) hw hW hsm rfl) _ hi
  have hfx : hasFlag f.accessFlags Acc.final = false ∨ (m.cls = cf ∧ meth.name = "<init>") := by
    obtain ⟨q2, hq2, hfin⟩ := hfin
    cases hq1.symm.trans hq2
    rcases hfin with hfin | ⟨hf0, hi1, hdecl⟩
    · left
      have hl2 := hw _ (hin _ (u_in_lay hk))
      unfold u_lay at hl2
      rw [if_neg (by rw [hfin]; decide)] at hl2
      exact (u_store hfc hkC hkind (word_at (a' := args) (U := s) hW (Or.inl rfl) hl2) hi hty hn hfit).1
    · right
      refine ⟨?_, by rw [o7]; exact hi1⟩
      have hl2 := hw _ (hin _ (u_in_lay hk))
      unfold u_lay at hl2
      rw [if_pos hf0] at hl2
      obtain ⟨_, _, c', _, _, _, -, -, hf', -, -, -, hown2, -⟩ := Cond.laysFinal_spec (word_at (a' := args) (U := s) hW (Or.inl rfl) hl2)
      have e1 : c' = cf := by have := hi.symm.trans hf'; simp at this; exact this.1.symm
      rw [hdecl] at hown2
      rw [← e1]; exact Option.some.inj (o4.symm.trans hown2)
  have hlt : f.slot < cc.slots.size := by rw [hsl]; exact k2_hasslot (e3 kf hk)
  have ha : a < H.size := (Array.getElem?_eq_some_iff.mp hc).1
  have hc' : (H.setIfInBounds a (cc.setSlot f.slot v))[a]? = some (cc.setSlot f.slot v) := by simp [Array.getElem?_setIfInBounds, ha]
  have ho : ∀ q, q ≠ a → (H.setIfInBounds a (cc.setSlot f.slot v))[q]? = H[q]? := fun q hq => by simp [Array.getElem?_setIfInBounds, Ne.symm hq]
  have hR2 := hRf.set (H' := H.setIfInBounds a (cc.setSlot f.slot v)) hs hS' hoff hc' ⟨fun z => by simp at z, fun z => by simp at z, fun z => by simp at z, fun _ z => by simp at z, fun ci' z => by
    have : ci' = ci := by simp at z; omega
    subst this
    refine ⟨q, hq1, e1, e2, fun j hj => ?_⟩
    rw [hnew (fun j => (q.2.1 j).2.2.1) rfl j, hsl]
    exact t_set e3 (fun x y hx hy => hap x y hx hy) hk v j hj⟩ (by simp) ho
  have hfitS : s.fitsSlot cc.cls cc.vm f.slot v = true := by
    have := hfits.2
    rw [e2, e1]
    exact this
  have hlocs : ∀ q ∈ locs ++ [⟨a, f.slot⟩], G.1.heap.size ≤ q.base := by
    intro q hq2
    rcases List.mem_append.mp hq2 with z | z
    · exact hq q z
    · rcases List.mem_singleton.mp z with rfl
      exact hR2.2
  rcases hlk with hlk | ⟨host, hlk⟩
  · exact W.putf o1 o2 o4 (ok_w hw hW hlk rfl) hi2 hsta hfx hc (by rw [e2]; exact fun z => by cases z) hlt hfits.1 hfitS rfl rfl hd (K ok ls _ _ hl hR2.1 hlocs)
  · exact va_Wputf o1 o2 o4 (ok_fn hw hW hlk) hi2 hsta hfx hc (by rw [e2]; exact fun z => by cases z) hlt hfits.1 hfitS rfl rfl hd (K ok ls _ _ hl hR2.1 hlocs)
theorem off_I (h : Hp) (a j : Nat) (x : Int32) : ∀ b, b ≠ a → hI (pI h a j x) b = hI h b ∧ hL (pI h a j x) b = hL h b ∧ hR (pI h a j x) b = hR h b := fun b hb => ⟨up2_off _ _ _ hb, rfl, rfl⟩
theorem off_L (h : Hp) (a j : Nat) (x : Int64) : ∀ b, b ≠ a → hI (pL h a j x) b = hI h b ∧ hL (pL h a j x) b = hL h b ∧ hR (pL h a j x) b = hR h b := fun b hb => ⟨rfl, up2_off _ _ _ hb, rfl⟩
theorem off_R (h : Hp) (a j : Nat) (x : Option Nat) : ∀ b, b ≠ a → hI (pR h a j x) b = hI h b ∧ hL (pR h a j x) b = hL h b ∧ hR (pR h a j x) b = hR h b := fun b hb => ⟨rfl, rfl, up2_off _ _ _ hb⟩
theorem g_putI {idx ci kf a z : Nat} {x : Int32} (hd : decode (mB M) pc = .ok (.putfield idx, 3)) (hf : FL (mO M) idx ci kf "I") (hfin : FinOk M ci kf) (hs : hS h a = some (ci + 10, z)) (K : Go M X (pc + 3) lv st (pI h a kf x) k n) : Go M X pc lv (.int x :: .ref a :: st) h k n :=
  g_put (h' := pI h a kf x) hd hf hfin hs (ty := .int) (by decide +kernel) rfl rfl rfl (off_I h a kf x) (fun d hdk j => by
    show fv (up2 (hI h) a kf x a) _ _ _ _ = _
    rw [up2_same]
    exact fvI d (Or.inl hdk) x j) K
theorem g_putZ {idx ci kf a z : Nat} {x : Int32} (hd : decode (mB M) pc = .ok (.putfield idx, 3)) (hf : FL (mO M) idx ci kf "Z") (hfin : FinOk M ci kf) (hs : hS h a = some (ci + 10, z)) (hx : x = 0 ∨ x = 1) (K : Go M X (pc + 3) lv st (pI h a kf x) k n) : Go M X pc lv (.int x :: .ref a :: st) h k n :=
  g_put (h' := pI h a kf x) hd hf hfin hs (ty := .boolean) (by decide +kernel) (by rcases hx with rfl | rfl <;> rfl) (by rcases hx with rfl | rfl <;> rfl) rfl (off_I h a kf x) (fun d hdk j => by
    show fv (up2 (hI h) a kf x a) _ _ _ _ = _
    rw [up2_same]
    exact fvI d (Or.inr hdk) x j) K
theorem g_putJ {idx ci kf a z : Nat} {x : Int64} (hd : decode (mB M) pc = .ok (.putfield idx, 3)) (hf : FL (mO M) idx ci kf "J") (hfin : FinOk M ci kf) (hs : hS h a = some (ci + 10, z)) (K : Go M X (pc + 3) lv st (pL h a kf x) k n) : Go M X pc lv (.long x :: .ref a :: st) h k n :=
  g_put (h' := pL h a kf x) hd hf hfin hs (ty := .long) (by decide +kernel) rfl rfl rfl (off_L h a kf x) (fun d hdk j => by
    show fv _ (up2 (hL h) a kf x a) _ _ _ = _
    rw [up2_same]
    exact fvL d hdk x j) K
theorem g_putR {idx ci kf a z : Nat} {t : String} {x : Option Nat} (hd : decode (mB M) pc = .ok (.putfield idx, 3)) (hf : FL (mO M) idx ci kf t) (hfin : FinOk M ci kf) (hs : hS h a = some (ci + 10, z)) (ht : ¬ t = "J" ∧ ¬ (t = "I" ∨ t = "Z")) {ty : FieldType} (hty : parseFieldDescriptor t = some ty) (hrt : (∃ n, ty = .object n) ∨ ∃ u, ty = .array u) (K : Go M X (pc + 3) lv st (pR h a kf x) k n) : Go M X pc lv (va_rf x :: .ref a :: st) h k n :=
  g_put (h' := pR h a kf x) hd hf hfin hs hty (by rcases hrt with ⟨_, rfl⟩ | ⟨_, rfl⟩ <;> cases x <;> rfl) (by rcases hrt with ⟨_, rfl⟩ | ⟨_, rfl⟩ <;> cases x <;> rfl) rfl (off_R h a kf x) (fun d hdk j => by
    show fv _ _ (up2 (hR h) a kf x a) _ _ = _
    rw [up2_same]
    exact fvR d (by rw [hdk]; exact ht) x j) K
end HR
end
section
/-! rows of values -/
section AR
variable {M : MM} {X : Xr} {pc : Nat} {lv : List (Option Value)} {st : List Value} {h : Hp} {k n : Nat}
theorem nI_out {j N : Nat} (hj : j < N) (hb : j < 2147483648) : ¬ (nI j < 0 ∨ N ≤ (nI j).toNatClampNeg) := by
  rw [nI_clamp hb]
  intro z
  rcases z with z | z
  · exact nI_pos hb z
  · omega
theorem g_iald {a j N : Nat} {x : Int32} (hd : decode (mB M) pc = .ok (.iaload, 1)) (hs : hS h a = some (0, N)) (hx : x = nI j) (hj : j < N) (hb : j < 2147483648) (K : Go M X (pc + 1) lv (.int (hI h a j) :: st) h k n) : Go M X pc lv (.int x :: .ref a :: st) h k n := by
  obtain ⟨G, ⟨p, l, e, R, s, m, args, below, meth, c⟩, Q⟩ := X
  intro ok ls H locs hl hRf hq
  obtain ⟨o1, o2, o3, o4, o5, o6, o7, hW, -⟩ := id ok
  obtain ⟨cc, hc, hok, -⟩ := hRf.1 a _ hs
  obtain ⟨a1, a2, a3, a4⟩ := hok.1 rfl
  subst hx
  exact W.iald o1 o2 hc (State.isArrayOf_alike hW.alike a2) a1 (by rw [a3]; exact nI_out hj hb) (by rw [nI_clamp hb]; exact a4 j hj) rfl rfl hd (K ok ls H locs hl hRf hq)
/-- a constant row -/
theorem g_cald {t j : Nat} {x : Int32} (hd : decode (mB M) pc = .ok (.iaload, 1)) (ht : (1 ≤ t ∧ t ≤ 3) ∨ t = 9) (hx : x = nI j) (hj : j < kLen X.1 t) (hb : j < 2147483648) (K : Go M X (pc + 1) lv (.int (kTab X.1 t j) :: st) h k n) : Go M X pc lv (.int x :: .ref (gK X.1 t) :: st) h k n := by
  obtain ⟨G, ⟨p, l, e, R, s, m, args, below, meth, c⟩, Q⟩ := X
  intro ok ls H locs hl hRf hq
  obtain ⟨o1, o2, o3, o4, o5, o6, o7, hW, A0, hw, hcl, hz⟩ := id ok
  obtain ⟨cc, hc, a1, a2, a3, a4⟩ := hz.2.2.2.2.1 t ht
  have hc' : H[gK G t]? = some cc := by rw [hRf.2.2.1 _ (Array.getElem?_eq_some_iff.mp hc).1]; exact hc
  subst hx
  exact W.iald o1 o2 hc' (State.isArrayOf_alike hW.alike a2) a1 (by rw [a3]; exact nI_out hj hb) (by rw [nI_clamp hb]; exact a4 j hj) rfl rfl hd (K ok ls H locs hl hRf hq)
theorem g_clen {t : Nat} (hd : decode (mB M) pc = .ok (.arraylength, 1)) (ht : (1 ≤ t ∧ t ≤ 3) ∨ t = 9) (K : Go M X (pc + 1) lv (.int (nI (kLen X.1 t)) :: st) h k n) : Go M X pc lv (.ref (gK X.1 t) :: st) h k n := by
  obtain ⟨G, ⟨p, l, e, R, s, m, args, below, meth, c⟩, Q⟩ := X
  intro ok ls H locs hl hRf hq
  obtain ⟨o1, o2, o3, o4, o5, o6, o7, hW, A0, hw, hcl, hz⟩ := id ok
  obtain ⟨cc, hc, a1, a2, a3, a4⟩ := hz.2.2.2.2.1 t ht
  have hc' : H[gK G t]? = some cc := by rw [hRf.2.2.1 _ (Array.getElem?_eq_some_iff.mp hc).1]; exact hc
  exact W.alen o1 o2 hc' (State.isArrayOf_alike hW.alike a2) (by rw [a3]; rfl) rfl rfl hd (K ok ls H locs hl hRf hq)
theorem g_elen (hd : decode (mB M) pc = .ok (.arraylength, 1)) (K : Go M X (pc + 1) lv (.int 0 :: st) h k n) : Go M X pc lv (.ref (gK X.1 0) :: st) h k n := by
  obtain ⟨G, ⟨p, l, e, R, s, m, args, below, meth, c⟩, Q⟩ := X
  intro ok ls H locs hl hRf hq
  obtain ⟨o1, o2, o3, o4, o5, o6, o7, hW, A0, hw, hcl, hz⟩ := id ok
  obtain ⟨cc, hc, a1, a2, a3, a4⟩ := hz.2.2.2.2.2.1
  have hc' : H[gK G 0]? = some cc := by rw [hRf.2.2.1 _ (Array.getElem?_eq_some_iff.mp hc).1]; exact hc
  exact W.alen o1 o2 hc' (State.isArrayOf_alike hW.alike a2) (by rw [a3]; rfl) rfl rfl hd (K ok ls H locs hl hRf hq)
theorem g_lald {a j N : Nat} {x : Int32} (hd : decode (mB M) pc = .ok (.laload, 1)) (hs : hS h a = some (1, N)) (hx : x = nI j) (hj : j < N) (hb : j < 2147483648) (K : Go M X (pc + 1) lv (.long (hL h a j) :: st) h k n) : Go M X pc lv (.int x :: .ref a :: st) h k n := by
  obtain ⟨G, ⟨p, l, e, R, s, m, args, below, meth, c⟩, Q⟩ := X
  intro ok ls H locs hl hRf hq
  obtain ⟨o1, o2, o3, o4, o5, o6, o7, hW, -⟩ := id ok
  obtain ⟨cc, hc, hok, -⟩ := hRf.1 a _ hs
  obtain ⟨a1, a2, a3, a4⟩ := hok.2.1 rfl
  subst hx
  exact W.lald o1 o2 hc (State.isArrayOf_alike hW.alike a2) a1 (by rw [a3]; exact nI_out hj hb) (by rw [nI_clamp hb]; exact a4 j hj) rfl rfl hd (K ok ls H locs hl hRf hq)
theorem g_zald {a j N : Nat} {x : Int32} (hd : decode (mB M) pc = .ok (.baload, 1)) (hs : hS h a = some (2, N)) (hx : x = nI j) (hj : j < N) (hb : j < 2147483648) (K : Go M X (pc + 1) lv (.int (hI h a j) :: st) h k n) : Go M X pc lv (.int x :: .ref a :: st) h k n := by
  obtain ⟨G, ⟨p, l, e, R, s, m, args, below, meth, c⟩, Q⟩ := X
  intro ok ls H locs hl hRf hq
  obtain ⟨o1, o2, o3, o4, o5, o6, o7, hW, -⟩ := id ok
  obtain ⟨cc, hc, hok, -⟩ := hRf.1 a _ hs
  obtain ⟨a1, a2, a3, a4⟩ := hok.2.2.1 rfl
  subst hx
  exact W.zald o1 o2 hc (State.isArrayOf_alike hW.alike a2) a1 (by rw [a3]; exact nI_out hj hb) (by rw [nI_clamp hb]; exact a4 j hj) rfl rfl hd (K ok ls H locs hl hRf hq)
theorem g_aald {a j N t : Nat} {x : Int32} (hd : decode (mB M) pc = .ok (.aaload, 1)) (hs : hS h a = some (t, N)) (ht : 3 ≤ t ∧ t ≤ 5) (hx : x = nI j) (hj : j < N) (hb : j < 2147483648) (K : Go M X (pc + 1) lv (va_rf (hR h a j) :: st) h k n) : Go M X pc lv (.int x :: .ref a :: st) h k n := by
  obtain ⟨G, ⟨p, l, e, R, s, m, args, below, meth, c⟩, Q⟩ := X
  intro ok ls H locs hl hRf hq
  obtain ⟨o1, o2, o3, o4, o5, o6, o7, hW, -⟩ := id ok
  obtain ⟨cc, hc, hok, -⟩ := hRf.1 a _ hs
  obtain ⟨a1, a2, a3, a4⟩ := (hok.2.2.2.1 ht.1 ht.2).A
  subst hx
  exact W.aald o1 o2 hc (State.isArrayOf_alike hW.alike a2) rfl a1 (by rw [a3]; exact nI_out hj hb) (by rw [nI_clamp hb]; exact a4 j hj) rfl rfl hd (K ok ls H locs hl hRf hq)
theorem g_alen {a N t : Nat} (hd : decode (mB M) pc = .ok (.arraylength, 1)) (hs : hS h a = some (t, N)) (ht : t ≤ 5) (K : Go M X (pc + 1) lv (.int (nI N) :: st) h k n) : Go M X pc lv (.ref a :: st) h k n := by
  obtain ⟨G, ⟨p, l, e, R, s, m, args, below, meth, c⟩, Q⟩ := X
  intro ok ls H locs hl hRf hq
  obtain ⟨o1, o2, o3, o4, o5, o6, o7, hW, -⟩ := id ok
  obtain ⟨cc, hc, hok, -⟩ := hRf.1 a _ hs
  have key : ∃ ty f, okA G.1 ty N f cc := by
    rcases (show t = 0 ∨ t = 1 ∨ t = 2 ∨ (3 ≤ t ∧ t ≤ 5) by omega) with z | z | z | z
    · exact ⟨_, _, hok.1 z⟩
    · exact ⟨_, _, hok.2.1 z⟩
    · exact ⟨_, _, hok.2.2.1 z⟩
    · exact ⟨_, _, (hok.2.2.2.1 z.1 z.2).A⟩
  obtain ⟨ty, f, a1, a2, a3, a4⟩ := key
  exact W.alen o1 o2 hc (State.isArrayOf_alike hW.alike a2) (by rw [a3]; rfl) rfl rfl hd (K ok ls H locs hl hRf hq)
theorem okA_set {s0 : State} {ty : FieldType} {N j : Nat} {f g : Nat → Value} {c : Cell} {v : Value} (h : okA s0 ty N f c) (hj : j < N) (hg : ∀ i, i < N → g i = updV f j v i) : okA s0 ty N g (c.setSlot j v) := by
  obtain ⟨a1, a2, a3, a4⟩ := h
  refine ⟨a1, a2, by simp [Cell.setSlot, a3], fun i hi => ?_⟩
  rw [hg i hi]
  simp only [Cell.setSlot, Array.getElem?_setIfInBounds, updV]
  by_cases e : i = j
  · subst e
    simp [a3, hi]
  · have e' : ¬ j = i := fun q => e q.symm
    simp [e, e', a4 i hi]
theorem locs_app {locs : List Loc} {B a j : Nat} (h : ∀ q ∈ locs, B ≤ q.base) (ha : B ≤ a) : ∀ q ∈ locs ++ [(⟨a, j⟩ : Loc)], B ≤ q.base := by
  intro q hq2
  rcases List.mem_append.mp hq2 with z | z
  · exact h q z
  · rcases List.mem_singleton.mp z with rfl
    exact ha
theorem g_iast {a j N : Nat} {x v : Int32} (hd : decode (mB M) pc = .ok (.iastore, 1)) (hs : hS h a = some (0, N)) (hx : x = nI j) (hj : j < N) (hb : j < 2147483648) (K : Go M X (pc + 1) lv st (pI h a j v) k n) : Go M X pc lv (.int v :: .int x :: .ref a :: st) h k n := by
  obtain ⟨G, ⟨p, l, e, R, s, m, args, below, meth, c⟩, Q⟩ := X
  intro ok ls H locs hl hRf hq
  obtain ⟨o1, o2, o3, o4, o5, o6, o7, hW, -⟩ := id ok
  obtain ⟨cc, hc, hok, -⟩ := hRf.1 a _ hs
  have hA := hok.1 rfl
  obtain ⟨a1, a2, a3, a4⟩ := id hA
  subst hx
  refine W.iast o1 o2 hc (State.isArrayOf_alike hW.alike a2) a1 (by rw [a3]; exact nI_out hj hb) rfl rfl hd (fun H' e1 e2 e3 => ?_)
  rw [nI_clamp hb] at e1 ⊢
  have hR2 := hRf.set (h' := pI h a j v) (H' := H') hs rfl (off_I h a j v) e1 ⟨fun _ => by
    refine okA_set hA hj (fun i _ => ?_)
    show Value.int (up2 (hI h) a j v a i) = _
    rw [up2_same]
    by_cases e : i = j <;> simp [va_up, updV, e], fun z => by simp at z, fun z => by simp at z, fun z => by simp at z, fun ci z => by simp at z⟩ e2 e3
  exact K ok ls H' _ hl hR2.1 (locs_app hq hR2.2)
theorem g_last {a j N : Nat} {x : Int32} {v : Int64} (hd : decode (mB M) pc = .ok (.lastore, 1)) (hs : hS h a = some (1, N)) (hx : x = nI j) (hj : j < N) (hb : j < 2147483648) (K : Go M X (pc + 1) lv st (pL h a j v) k n) : Go M X pc lv (.long v :: .int x :: .ref a :: st) h k n := by
  obtain ⟨G, ⟨p, l, e, R, s, m, args, below, meth, c⟩, Q⟩ := X
  intro ok ls H locs hl hRf hq
  obtain ⟨o1, o2, o3, o4, o5, o6, o7, hW, -⟩ := id ok
  obtain ⟨cc, hc, hok, -⟩ := hRf.1 a _ hs
  have hA := hok.2.1 rfl
  obtain ⟨a1, a2, a3, a4⟩ := id hA
  subst hx
  refine W.last o1 o2 hc (State.isArrayOf_alike hW.alike a2) a1 (by rw [a3]; exact nI_out hj hb) rfl rfl hd (fun H' e1 e2 e3 => ?_)
  rw [nI_clamp hb] at e1 ⊢
  have hR2 := hRf.set (h' := pL h a j v) (H' := H') hs rfl (off_L h a j v) e1 ⟨fun z => by simp at z, fun _ => by
    refine okA_set hA hj (fun i _ => ?_)
    show Value.long (up2 (hL h) a j v a i) = _
    rw [up2_same]
    by_cases e : i = j <;> simp [va_up, updV, e], fun z => by simp at z, fun z => by simp at z, fun ci z => by simp at z⟩ e2 e3
  exact K ok ls H' _ hl hR2.1 (locs_app hq hR2.2)
theorem g_zast {a j N : Nat} {x v : Int32} (hd : decode (mB M) pc = .ok (.bastore, 1)) (hs : hS h a = some (2, N)) (hx : x = nI j) (hj : j < N) (hb : j < 2147483648) (hv : v = 0 ∨ v = 1) (K : Go M X (pc + 1) lv st (pI h a j v) k n) : Go M X pc lv (.int v :: .int x :: .ref a :: st) h k n := by
  obtain ⟨G, ⟨p, l, e, R, s, m, args, below, meth, c⟩, Q⟩ := X
  intro ok ls H locs hl hRf hq
  obtain ⟨o1, o2, o3, o4, o5, o6, o7, hW, -⟩ := id ok
  obtain ⟨cc, hc, hok, -⟩ := hRf.1 a _ hs
  have hA := hok.2.2.1 rfl
  obtain ⟨a1, a2, a3, a4⟩ := id hA
  subst hx
  have hnv : narrow .boolean (.int v) = .int v := by rcases hv with rfl | rfl <;> rfl
  refine W.zast o1 o2 hc (State.isArrayOf_alike hW.alike a2) a1 (by rw [a3]; exact nI_out hj hb) rfl rfl hd (fun H' e1 e2 e3 => ?_)
  rw [nI_clamp hb, hnv] at e1
  rw [nI_clamp hb]
  have hR2 := hRf.set (h' := pI h a j v) (H' := H') hs rfl (off_I h a j v) e1 ⟨fun z => by simp at z, fun z => by simp at z, fun _ => by
    refine okA_set hA hj (fun i _ => ?_)
    show Value.int (up2 (hI h) a j v a i) = _
    rw [up2_same]
    by_cases e : i = j <;> simp [va_up, updV, e], fun z => by simp at z, fun ci z => by simp at z⟩ e2 e3
  exact K ok ls H' _ hl hR2.1 (locs_app hq hR2.2)
/-- an element of E's rows: an object of class number ci, which may stand there -/
def Asg (G : Gx) (E : String) (ci : Nat) : Prop := ∀ (s : State), G.1.WarmedH s.vm → ∀ comp : ClassId, s.vm.findClass E = some comp → s.vm.assignable (G.2.1.1 ci) comp = true
theorem g_aast {a j N t v ci z : Nat} {x : Int32} (hd : decode (mB M) pc = .ok (.aastore, 1)) (hs : hS h a = some (t, N)) (ht : 3 ≤ t ∧ t ≤ 5) (hv : hS h v = some (ci + 10, z)) (hci : (zCL[ci]?).isSome = true) (hasg : SysF X.1 → Asg X.1 (rcn t) ci) (hx : x = nI j) (hj : j < N) (hb : j < 2147483648) (K : Go M X (pc + 1) lv st (pR h a j (some v)) k n) : Go M X pc lv (.ref v :: .int x :: .ref a :: st) h k n := by
  obtain ⟨G, ⟨p, l, e, R, s, m, args, below, meth, c⟩, Q⟩ := X
  intro ok ls H locs hl hRf hq
  obtain ⟨o1, o2, o3, o4, o5, o6, o7, hW, hSy⟩ := id ok
  obtain ⟨cc, hc, hok, -⟩ := hRf.1 a _ hs
  have hA := hok.2.2.2.1 ht.1 ht.2
  obtain ⟨a1, a2, a3, a4⟩ := hA.A
  obtain ⟨-, kA, comp, c1, c2, c3, -⟩ := id hA
  obtain ⟨q, hq1⟩ := Option.isSome_iff_exists.mp hci
  obtain ⟨cv, hcv, v1, v2, -⟩ := okO_c hRf hv hq1
  obtain ⟨A0, hw, hcl, hst⟩ := id hSy
  obtain ⟨-, hfc, kC, hkC, hkind⟩ := u_Kn_moved hW.alike (hcl ci q hq1).1
  obtain ⟨kA', hkA', heA⟩ := hW.alike.2.2 _ _ c1
  have hcs : s.vm.findClass (rcn t) = some comp := by rw [hW.alike.findClass]; exact c3
  obtain ⟨kE, hkE, -⟩ := Vm.findClass_spec hcs
  subst hx
  refine W.aast o1 o2 hc a2.1 a1 hkA' (by rw [heA]; exact c2) rfl hkE ⟨nI_pos hb, by rw [nI_clamp hb, a3]; exact hj⟩ hcv (fun q z => by rw [v2] at z; cases z) (by rw [v1]; exact hkC) (by rw [v1]; exact hasg hSy s hW comp hcs) rfl rfl hd (fun H' e1 e2 e3 => ?_)
  rw [nI_clamp hb] at e1 ⊢
  have hR2 := hRf.set (h' := pR h a j (some v)) (H' := H') hs rfl (off_R h a j (some v)) e1 ⟨fun z => by simp at z; omega, fun z => by simp at z; omega, fun z => by simp at z; omega, fun _ _ => hA.set (x := some v) (by
    show up2 (hR h) a j (some v) a = _
    rw [up2_same]), fun ci z => by simp at z; omega⟩ e2 e3
  exact K ok ls H' _ hl hR2.1 (locs_app hq hR2.2)
end AR
end
section
/-! making cells -/
section NW
variable {M : MM} {X : Xr} {pc : Nat} {lv : List (Option Value)} {st : List Value} {h : Hp} {k n : Nat}
theorem g_aastN {a j N t : Nat} {x : Int32} (hd : decode (mB M) pc = .ok (.aastore, 1)) (hs : hS h a = some (t, N)) (ht : 3 ≤ t ∧ t ≤ 5) (hx : x = nI j) (hj : j < N) (hb : j < 2147483648) (K : Go M X (pc + 1) lv st (pR h a j none) k n) : Go M X pc lv (.null :: .int x :: .ref a :: st) h k n := by
  obtain ⟨G, ⟨p, l, e, R, s, m, args, below, meth, c⟩, Q⟩ := X
  intro ok ls H locs hl hRf hq
  obtain ⟨o1, o2, o3, o4, o5, o6, o7, hW, hSy⟩ := id ok
  obtain ⟨cc, hc, hok, -⟩ := hRf.1 a _ hs
  have hA := hok.2.2.2.1 ht.1 ht.2
  obtain ⟨a1, a2, a3, a4⟩ := hA.A
  subst hx
  refine va_WaastN o1 o2 hc (State.isArrayOf_alike hW.alike a2) a1 (by rw [a3]; exact nI_out hj hb) rfl rfl hd (fun H' e1 e2 e3 => ?_)
  rw [nI_clamp hb] at e1 ⊢
  have hR2 := hRf.set (h' := pR h a j none) (H' := H') hs rfl (off_R h a j none) e1 ⟨fun z => by simp at z; omega, fun z => by simp at z; omega, fun z => by simp at z; omega, fun _ _ => hA.set (x := none) (by
    show up2 (hR h) a j none a = _
    rw [up2_same]), fun ci z => by simp at z; omega⟩ e2 e3
  exact K ok ls H' _ hl hR2.1 (locs_app hq hR2.2)
/-- what is known of a cell that is made here -/
def Fre (h : Hp) (q : Nat) : Prop := hS h q = none ∧ (∀ j, hI h q j = 0) ∧ (∀ j, hL h q j = 0) ∧ (∀ j, hR h q j = none)
theorem okA_new {s0 s : State} {ty : FieldType} {N : Nat} {v : Value} {cA : ClassId} (hal : s.vm.Alike s0.vm) (hAr : ArrOfT s cA ty) : okA s0 ty N (fun _ => v) (arrV cA N (fun _ => v)) :=
  ⟨fun z => (by cases z), State.isArrayOf_alike hal (hAr N _), arrV_size _ _ _, fun j hj => arrV_read _ _ hj⟩
theorem g_newarr {N t : Nat} {x : Int32} {at' : ArrayType} (hd : decode (mB M) pc = .ok (.newarray at', 2)) (hw1 : Cond.arrayClass (newarray.typeOf at') ∈ lw_tbl) (hx : x = nI N) (hN : N < 2147483648) (hb : N * componentBytes (newarray.typeOf at') ≤ 536870912) (hc : k + 1 ≤ (xR X).cells) (hsl : n + N ≤ (xR X).slots)
    (ht : (t = 0 ∧ newarray.typeOf at' = .int) ∨ (t = 1 ∧ newarray.typeOf at' = .long) ∨ (t = 2 ∧ newarray.typeOf at' = .boolean)) (K : ∀ q, Fre h q → Go M X (pc + 2) lv (.ref q :: st) (pN h q (t, N)) (k + 1) (n + N)) : Go M X pc lv (.int x :: st) h k n := by
  obtain ⟨G, ⟨p, l, e, R, s, m, args, below, meth, c⟩, Q⟩ := X
  intro ok ls H locs hl hRf hq
  obtain ⟨o1, o2, o3, o4, o5, o6, o7, hW, hSy⟩ := id ok
  obtain ⟨A0, hw, -⟩ := id hSy
  subst hx
  refine W.newaK o1 o2 (ok_w hw hW hw1 rfl) rfl hd rfl (nI_pos hN) (nI_clamp hN) hb hc hsl rfl (fun H' cA e1 e2 e3 hAr => ?_)
  have hal := hW.alike.symm
  obtain ⟨r1, r2⟩ := hRf.push (H' := H') (kd := (t, N)) e1 (by
    rcases ht with ⟨rfl, e⟩ | ⟨rfl, e⟩ | ⟨rfl, e⟩
    · rw [e] at hAr e1 ⊢
      exact ⟨fun _ => okA_new hal hAr, fun z => by simp at z, fun z => by simp at z, fun z => by simp at z, fun ci z => by simp at z⟩
    · rw [e] at hAr e1 ⊢
      exact ⟨fun z => by simp at z, fun _ => okA_new hal hAr, fun z => by simp at z, fun z => by simp at z, fun ci z => by simp at z⟩
    · rw [e] at hAr e1 ⊢
      exact ⟨fun z => by simp at z, fun z => by simp at z, fun _ => okA_new hal hAr, fun z => by simp at z, fun ci z => by simp at z⟩) e2 e3
  exact K H.size r2 ok ls H' locs hl r1 hq
theorem g_anew {N t idx : Nat} {x : Int32} (hd : decode (mB M) pc = .ok (.anewarray idx, 3)) (ht : 3 ≤ t ∧ t ≤ 5) (hw1 : Cond.classLink (mO M) idx (rcn t) ∈ lw_tbl) (hw2 : Cond.arrayOver (.object (rcn t)) ∈ lw_tbl) (hx : x = nI N) (hN : N * 4 ≤ 536870912) (hc : k + 1 ≤ (xR X).cells) (hsl : n + N ≤ (xR X).slots)
    (K : ∀ q, Fre h q → Go M X (pc + 3) lv (.ref q :: st) (pN h q (t, N)) (k + 1) (n + N)) : Go M X pc lv (.int x :: st) h k n := by
  obtain ⟨G, ⟨p, l, e, R, s, m, args, below, meth, c⟩, Q⟩ := X
  intro ok ls H locs hl hRf hq
  obtain ⟨o1, o2, o3, o4, o5, o6, o7, hW, hSy⟩ := id ok
  obtain ⟨A0, hw, -⟩ := id hSy
  have hN' : N < 2147483648 := by omega
  subst hx
  refine W.anew o1 o2 o4 (ok_w hw hW hw1 rfl) (va_AO.use (va_AO.moved hW.alike (va_AO.of (hw _ hw2)))) rfl hd rfl (nI_pos hN') (by rw [nI_clamp hN']; exact hN) hc (by rw [nI_clamp hN']; exact hsl) (fun cA kA comp f1 f2 f3 f4 => ?_)
  rw [nI_clamp hN']
  generalize hH1 : H.push ({ cls := cA, slots := Array.replicate N .null, vm := .none } : Cell) = H1
  have z1 : H1.size = H.size + 1 := by rw [← hH1, Array.size_push]
  have e1 : H1[H.size]? = some (arrV cA N (fun _ => .null)) := by rw [← hH1, Array.getElem?_push_size, ← arrV_new]
  have o1' : ∀ q : Nat, q < H.size → H1[q]? = H[q]? := fun q hq => by rw [← hH1, Array.getElem?_push, if_neg (Nat.ne_of_lt hq)]
  have hal := hW.alike.symm
  obtain ⟨kA', hkA', heA⟩ := hal.2.2 _ _ f2
  have hAr : ArrOfT s cA (.object (rcn t)) := fun N z => ⟨(fun k h => by cases h), kA, f2, comp, f3⟩
  obtain ⟨r1, r2⟩ := hRf.push (H' := H1) (kd := (t, N)) e1 ⟨fun z => by simp at z; omega, fun z => by simp at z; omega, fun z => by simp at z; omega, fun _ _ => ⟨rfl, kA', comp, hkA', by rw [heA]; exact f3, by rw [hal.findClass]; exact f4, by rw [hal.findClass]; exact f1⟩, fun ci z => by simp at z; omega⟩ z1 o1'
  exact K H.size r2 ok ls H1 locs hl r1 hq
theorem g_new {idx ci N : Nat} {C : String} {T : u_T} (hd : decode (mB M) pc = .ok (.new idx, 3)) (hq1 : zCL[ci]? = some (C, T, N)) (hw1 : Cond.classLink (mO M) idx C ∈ lw_tbl) (hw2 : Cond.instantiable C N ∈ lw_tbl) (hw3 : Cond.initialized C ∈ lw_tbl) (hc : k + 1 ≤ (xR X).cells) (hsl : n + N ≤ (xR X).slots)
    (K : ∀ q, Fre h q → Go M X (pc + 3) lv (.ref q :: st) (pN h q (ci + 10, 0)) (k + 1) (n + N)) : Go M X pc lv st h k n := by
  obtain ⟨G, ⟨p, l, e, R, s, m, args, below, meth, c⟩, Q⟩ := X
  intro ok ls H locs hl hRf hq
  obtain ⟨o1, o2, o3, o4, o5, o6, o7, hW, hSy⟩ := id ok
  obtain ⟨A0, hw, hcl, hst⟩ := id hSy
  obtain ⟨hKn, hin, hty, -⟩ := hcl ci _ hq1
  obtain ⟨hSl0, hfc0, kC0, hkC0, hkind0⟩ := id hKn
  obtain ⟨hSl, hfc, -⟩ := u_Kn_moved hW.alike hKn
  refine W.newcK o1 o2 o4 (ok_w hw hW hw1 rfl) (ok_w hw hW hw2 rfl) (ok_w hw hW hw3 rfl) rfl hd hc hsl hfc rfl (fun H' kC hkC e1 e2 e3 => ?_)
  have hal := hW.alike.symm
  obtain ⟨kC', hkC', heC⟩ := hal.2.2 _ _ hkC
  cases hkC0.symm.trans hkC'
  obtain ⟨r1, r2⟩ := hRf.push (H' := H') (kd := (ci + 10, 0)) e1 ⟨fun z => by simp at z, fun z => by simp at z, fun z => by simp at z, fun _ z => by simp at z, fun ci' z => by
    have : ci' = ci := by simp at z; omega
    subst this
    refine ⟨_, hq1, rfl, rfl, fun j hj => ?_⟩
    obtain ⟨cf, kf, fi, fd, hi, he⟩ := hSl0 j hj
    obtain ⟨ty, hty1, hty2⟩ := hty j hj
    have h3 := (u_facts hfc0 hkC0 (u_lays hw hin hj) hi).2.2
    rw [(State.fieldFound?_type hi hty1).2] at h3
    rw [← he, ← hty2]
    refine k2_blank ?_
    have : kC.instanceTypes = kC0.instanceTypes := by rw [heC]
    rw [this]
    exact h3⟩ e2 e3
  exact K H.size r2 ok ls H' locs hl r1 hq
end NW
/-! contracts -/
def rmD (d w mc ms : Nat) : Room := { frames := d, cells := mc, slots := ms, locals := w }
def QcP (G : Gx) (P : Option Value → Hp → Prop) : Array Value → State → Outcome → State → Prop := fun _ _ o t => ∃ (r : Option Value) (h' : Hp), o = .returned r ∧ G.1.WarmedH t.vm ∧ Rf G h' t.heap ∧ P r h'
def PcP (G : Gx) (av : List Value) (h : Hp) : Array Value → State → Prop := va_Pc av (fun U => SysF G ∧ G.1.WarmedH U.vm ∧ Rf G h U.heap)
def mCode (M : MM) : Cond := Cond.code (mY M) (mB M) (mL M) (mT M)
def Ct (G : Gx) (l : Launch) (M : MM) (d w : Nat) (av : List Value) (h : Hp) (mc ms : Nat) (P : Option Value → Hp → Prop) : Prop :=
  Met l (mY M) [mCode M] (rmD d w mc ms) (PcP G av h) (QcP G P) mc ms (fun q => G.1.heap.size ≤ q)
def mkX (G : Gx) (P : Option Value → Hp → Prop) (d w mc ms : Nat) (p : Program) (l : Launch) (e : Env) (s : State) (m : MethodId) (args : Array Value) (below : List Frame) (meth : Method) (c : Code) : Xr :=
  (G, (p, l, e, rmD d w mc ms, s, m, args, below, meth, c), MQ below (QcP G P) args s mc ms (fun q => G.1.heap.size ≤ q))
def lvO : Slot → Option Value
  | .val v => some v
  | _ => none
def lvE (n : Nat) (av : List Value) : List (Option Value) := (lg_sl av ++ List.replicate (n - (lg_sl av).length) Slot.unset).map lvO
theorem Lv.entry {n : Nat} {av : List Value} (hn : (lg_sl av).length ≤ n) : Lv ((lg_sl av ++ List.replicate (n - (lg_sl av).length) Slot.unset).toArray) n (lvE n av) := by
  have h0 := lv_entry av hn
  refine ⟨h0.1, h0.2.1, fun i v hi => ?_⟩
  unfold lvE at hi
  rw [List.getElem?_map] at hi
  cases hx : (lg_sl av ++ List.replicate (n - (lg_sl av).length) Slot.unset)[i]? with
  | none => rw [hx] at hi; cases hi
  | some z =>
    rw [hx] at hi
    have : lvO z = some v := Option.some.inj hi
    cases z with
    | val w => cases this; simpa using hx
    | _ => cases this
theorem Ct.of {G : Gx} {l : Launch} {M : MM} {d w : Nat} {av : List Value} {h : Hp} {mc ms : Nat} {P : Option Value → Hp → Prop} (hy : plainName (mY M).cls = true) (hn : (lg_sl av).length ≤ mL M) {lv : List (Option Value)} (hlv : lvE (mL M) av = lv)
    (body : ∀ p e s m args below meth c, Go M (mkX G P d w mc ms p l e s m args below meth c) 0 lv [] h 0 0) : Ct G l M d w av h mc ms P := by
  refine Met.ofW (cc := mB M) (maxL := mL M) (ret := mT M) hy rfl ?_
  intro p e s m args below meth c s₁ B hml hv
  obtain ⟨rfl, hSy, hW, hRf⟩ := hv
  rw [lg_entry_eq]
  have hnm : meth.name = (mY M).name := (name_of_methodNamed B.named B.method).1
  have hown : s.vm.findClass (mO M) = some m.cls := findClass_of_methodNamed B.named
  have ok : OKx M (mkX G P d w mc ms p l e s m av.toArray below meth c) := ⟨B.exec, B.bytes, hml, hown, B.notSynchronized, B.returns, hnm, hW, hSy⟩
  subst hlv
  exact body p e s m av.toArray below meth c ok _ s.heap [] (Lv.entry hn) hRf (fun q hq => by cases hq)
section RT
variable {M : MM} {pc : Nat} {lv : List (Option Value)} {h : Hp} {k n : Nat} {G : Gx} {P : Option Value → Hp → Prop} {d w mc ms : Nat} {p : Program} {l : Launch} {e : Env} {s : State} {m : MethodId} {args : Array Value} {below : List Frame} {meth : Method} {c : Code}
theorem g_ireturn {x : Int32} (hd : decode (mB M) pc = .ok (.ireturn, 1)) (ht : mT M = some .int) (hk : k ≤ mc) (hn : n ≤ ms) (hP : P (some (.int x)) h) : Go M (mkX G P d w mc ms p l e s m args below meth c) pc lv [.int x] h k n := by
  intro ok ls H locs hl hRf hq
  obtain ⟨o1, o2, o3, o4, o5, o6, o7, hW, hSy⟩ := id ok
  exact W.widen hk hn (W.iret o1 o2 (by rw [o6, ht]) (fun t htp hWt => ⟨_, h, rfl, hW.trans hWt, by rw [htp]; exact hRf, hP⟩) hq hd o5)
theorem g_zreturn {x : Int32} (hd : decode (mB M) pc = .ok (.ireturn, 1)) (ht : mT M = some .boolean) (hx : x = 0 ∨ x = 1) (hk : k ≤ mc) (hn : n ≤ ms) (hP : P (some (.int x)) h) : Go M (mkX G P d w mc ms p l e s m args below meth c) pc lv [.int x] h k n := by
  intro ok ls H locs hl hRf hq
  obtain ⟨o1, o2, o3, o4, o5, o6, o7, hW, hSy⟩ := id ok
  exact W.widen hk hn (W.zret o1 o2 (by rw [o6, ht]) (by rcases hx with rfl | rfl <;> rfl) (fun t htp hWt => ⟨_, h, rfl, hW.trans hWt, by rw [htp]; exact hRf, hP⟩) hq hd o5)
theorem g_lreturn {x : Int64} (hd : decode (mB M) pc = .ok (.lreturn, 1)) (ht : mT M = some .long) (hk : k ≤ mc) (hn : n ≤ ms) (hP : P (some (.long x)) h) : Go M (mkX G P d w mc ms p l e s m args below meth c) pc lv [.long x] h k n := by
  intro ok ls H locs hl hRf hq
  obtain ⟨o1, o2, o3, o4, o5, o6, o7, hW, hSy⟩ := id ok
  exact W.widen hk hn (W.lret o1 o2 (by rw [o6, ht]) (fun t htp hWt => ⟨_, h, rfl, hW.trans hWt, by rw [htp]; exact hRf, hP⟩) hq hd o5)
theorem g_return (hd : decode (mB M) pc = .ok (.return_, 1)) (ht : mT M = none) (hk : k ≤ mc) (hn : n ≤ ms) (hP : P none h) : Go M (mkX G P d w mc ms p l e s m args below meth c) pc lv [] h k n := by
  intro ok ls H locs hl hRf hq
  obtain ⟨o1, o2, o3, o4, o5, o6, o7, hW, hSy⟩ := id ok
  exact W.widen hk hn (W.vret o1 o2 (by rw [o6, ht]) (fun t htp hWt => ⟨_, h, rfl, hW.trans hWt, by rw [htp]; exact hRf, hP⟩) hq hd o5)
theorem g_areturn {x : Option Nat} {rt : FieldType} (hd : decode (mB M) pc = .ok (.areturn, 1)) (ht : mT M = some rt) (hrt : (∃ n, rt = .object n) ∨ ∃ t, rt = .array t) (hk : k ≤ mc) (hn : n ≤ ms) (hP : P (some (va_rf x)) h) : Go M (mkX G P d w mc ms p l e s m args below meth c) pc lv [va_rf x] h k n := by
  intro ok ls H locs hl hRf hq
  obtain ⟨o1, o2, o3, o4, o5, o6, o7, hW, hSy⟩ := id ok
  exact W.widen hk hn (W.aret o1 o2 (by rw [o6, ht]) hrt (va_rf_or x) (fun t htp hWt => ⟨_, h, rfl, hW.trans hWt, by rw [htp]; exact hRf, hP⟩) hq hd o5)
end RT
theorem PcP_blind (G : Gx) (av : List Value) (h : Hp) : FrameBlind (PcP G av h) := fun a U g mk q => by
  obtain ⟨q0, q1, q2, q3⟩ := q
  exact ⟨q0, q1, q2, q3⟩
/-- how a call's entry is linked: plainly, or to a nest mate -/
def MLn (own : String) (idx : Nat) (Y : MM) : Prop := (Cond.methodLink own idx (mY Y) ∈ lw_tbl ∨ ∃ host, Cond.methodLinkNest own idx (mY Y) host ∈ lw_tbl) ∧ mCode Y ∈ lw_tbl ∧ Cond.initialized (mO Y) ∈ lw_tbl ∧ (mO Y ≠ "java/lang/invoke/MethodHandle" ∧ mO Y ≠ "java/lang/invoke/VarHandle")
def nPar (Y : MM) (n : Nat) : Prop := (parseMethodDescriptor (mY Y).desc).map (fun d => d.parameters.length) = some n
theorem nPar.to {Y : MM} {n : Nat} (h : nPar Y n) : ∀ sig, parseMethodDescriptor (mY Y).desc = some sig → n = sig.parameters.length := fun sig e => by
  unfold nPar at h
  rw [e] at h
  exact (Option.some.inj h).symm
section CL
variable {M : MM} {X : Xr} {pc : Nat} {lv : List (Option Value)} {st : List Value} {h : Hp} {k n : Nat}
/-- behind a call -/
theorem g_back {G : Gx} {p : Program} {l : Launch} {e : Env} {R : Room} {s : State} {m : MethodId} {args : Array Value} {below : List Frame} {meth : Method} {c : Code} {Q : State → Prop} {ls : Array Slot} {H : Heap} {locs : List Loc} {st0 : List Value} {P : Option Value → Hp → Prop} {mc ms : Nat} {a : Array Value}
    (ok : OKx M (G, (p, l, e, R, s, m, args, below, meth, c), Q)) (hl : Lv ls (mL M) lv) (hq : ∀ q ∈ locs, G.1.heap.size ≤ q.base)
    (run : va_Run p l e R s m args below meth c H locs k n mc ms (F0 m pc ls st0) st (QcP G P a) (fun q => G.1.heap.size ≤ q))
    (K : ∀ r h', P r h' → Go M (G, (p, l, e, R, s, m, args, below, meth, c), Q) (pc + 3) lv (r.toList ++ st) h' (k + mc) (n + ms)) : W p l e R s m args below meth c H locs k n Q (F0 m pc ls st0) := by
  intro T hT Y
  obtain ⟨v, st₀, t, T', L, h0, X', hL', e1, e2, ⟨r, h', hv, hWt, hRt, hp⟩, go⟩ := run T hT Y
  cases hv
  obtain ⟨t2, a1, b1⟩ := K v h' hp ok ls T'.heap (locs ++ L) hl (by rw [e1]; exact hRt) (fun q hqm => by
    rcases List.mem_append.mp hqm with z | z
    · exact hq q z
    · exact hL' q z) T' rfl X'
  exact ⟨t2, go t2 a1, b1⟩
def rmOk (X : Xr) (Y : MM) (d w mc ms k n : Nat) : Prop := d + 1 ≤ (xR X).frames ∧ 8 + (mL Y + 11) + w ≤ (xR X).locals ∧ k + mc ≤ (xR X).cells ∧ n + ms ≤ (xR X).slots
def catS (st : List Value) : Nat := (st.map fun v => v.category).sum
theorem code_w {G : Gx} {s : State} {A0 : Array Value} (hw : ∀ w ∈ lw_tbl, w.before A0 G.1 = true) (hW : G.1.WarmedH s.vm) {Y : MM} (hc : mCode Y ∈ lw_tbl) : ∀ w ∈ [mCode Y], ∀ (a' : Array Value) (U : State), s.WarmedH U.vm → w.before a' U = true := by
  intro w hw2 a' U hU
  rcases List.mem_singleton.mp hw2 with rfl
  exact ok_w hw (hW.trans hU) hc rfl
theorem g_callV {idx ci z a d w mc ms : Nat} {Y : MM} {As st0 : List Value} {P : Option Value → Hp → Prop} (hd : decode (mB M) pc = .ok (.invokevirtual idx, 3)) (hm : MLn (mO M) idx Y) (hi : Cond.instanceMethod (mY Y) ∈ lw_tbl) (hsel : Cond.selects (mO Y) (mY Y) (mY Y) ∈ lw_tbl) {T : u_T} {N : Nat} (hci : zCL[ci]? = some (mO Y, T, N)) (hn : nPar Y As.length)
    (C : Ct X.1 (xl X) Y d w (.ref a :: As) h mc ms P) (hs : hS h a = some (ci + 10, z)) (hst : st0 = As.reverse ++ .ref a :: st) (h8 : catS st ≤ 8) (hr : rmOk X Y d w mc ms k n)
    (K : ∀ r h', P r h' → Go M X (pc + 3) lv (r.toList ++ st) h' (k + mc) (n + ms)) : Go M X pc lv st0 h k n := by
  obtain ⟨G, ⟨p, l, e, R, s, m, args, below, meth, c⟩, Q⟩ := X
  intro ok ls H locs hl hRf hq
  obtain ⟨o1, o2, o3, o4, o5, o6, o7, hW, hSy⟩ := id ok
  obtain ⟨A0, hw, hcl, hstt⟩ := id hSy
  obtain ⟨hlk, hcd, hini, hy⟩ := hm
  obtain ⟨r1, r2, r3, r4⟩ := hr
  obtain ⟨cb, hcb, v1, v2, -⟩ := okO_c hRf hs hci
  have hfc := (u_Kn_moved hW.alike (hcl ci _ hci).1).2.1
  have hpre : PreV s H (mO Y) a (PcP G (.ref a :: As) h) As := ⟨PcP_blind _ _ _, ⟨cb, hcb, by rw [v2]; rfl, by rw [v1]; exact hfc⟩, fun U hU hWU => ⟨rfl, hSy, hW.trans hWU, by rw [hU]; exact hRf⟩⟩
  have hsz : (F0 m pc ls st0).locals.size = mL M := hl.1
  rcases hlk with hlk | ⟨host, hlk⟩
  · exact g_back ok hl hq (va_runV (Ts := []) (n := As.length) ⟨o1, o2, o3, o4, fun _ z => by cases z⟩ C ⟨⟨rfl, rfl, r1, r2, code_w hw hW hcd, List.mem_singleton.mpr rfl, ok_w hw hW hcd rfl, ok_w hw hW hini rfl, hy, hn.to, ok_w hw hW hlk rfl⟩, ok_w hw hW hi rfl, ok_w hw hW hsel rfl⟩ hpre rfl rfl hsz hst (lv_room h8) hd ⟨r3, r4⟩) K
  · exact g_back ok hl hq (va_runVN (Ts := []) (n := As.length) ⟨o1, o2, o3, o4, fun _ z => by cases z⟩ C ⟨⟨⟨rfl, rfl, r1, r2, code_w hw hW hcd, List.mem_singleton.mpr rfl⟩, ok_w hw hW hcd rfl, ok_w hw hW hini rfl, hy, hn.to, ok_mn hw hW hlk⟩, ok_w hw hW hi rfl, ok_w hw hW hsel rfl⟩ hpre rfl rfl hsz hst (lv_room h8) hd ⟨r3, r4⟩) K
theorem g_callS {idx d w mc ms : Nat} {Y : MM} {As st0 : List Value} {P : Option Value → Hp → Prop} (hd : decode (mB M) pc = .ok (.invokestatic idx, 3)) (hm : MLn (mO M) idx Y) (hi : Cond.static (mY Y) ∈ lw_tbl) (hn : nPar Y As.length)
    (C : Ct X.1 (xl X) Y d w As h mc ms P) (hst : st0 = As.reverse ++ st) (h8 : catS st ≤ 8) (hr : rmOk X Y d w mc ms k n)
    (K : ∀ r h', P r h' → Go M X (pc + 3) lv (r.toList ++ st) h' (k + mc) (n + ms)) : Go M X pc lv st0 h k n := by
  obtain ⟨G, ⟨p, l, e, R, s, m, args, below, meth, c⟩, Q⟩ := X
  intro ok ls H locs hl hRf hq
  obtain ⟨o1, o2, o3, o4, o5, o6, o7, hW, hSy⟩ := id ok
  obtain ⟨A0, hw, hcl, hstt⟩ := id hSy
  obtain ⟨hlk, hcd, hini, hy⟩ := hm
  obtain ⟨r1, r2, r3, r4⟩ := hr
  have hpre : PreS s H (PcP G As h) As := ⟨PcP_blind _ _ _, fun U hU hWU => ⟨rfl, hSy, hW.trans hWU, by rw [hU]; exact hRf⟩⟩
  have hsz : (F0 m pc ls st0).locals.size = mL M := hl.1
  rcases hlk with hlk | ⟨host, hlk⟩
  · exact g_back ok hl hq (va_runS (Ts := []) (n := As.length) ⟨o1, o2, o3, o4, fun _ z => by cases z⟩ C ⟨⟨rfl, rfl, r1, r2, code_w hw hW hcd, List.mem_singleton.mpr rfl, ok_w hw hW hcd rfl, ok_w hw hW hini rfl, hy, hn.to, ok_w hw hW hlk rfl⟩, ok_w hw hW hi rfl⟩ hpre rfl rfl hsz hst (lv_room h8) hd ⟨r3, r4⟩) K
  · exact g_back ok hl hq (va_runSN (Ts := []) (n := As.length) ⟨o1, o2, o3, o4, fun _ z => by cases z⟩ C ⟨⟨⟨rfl, rfl, r1, r2, code_w hw hW hcd, List.mem_singleton.mpr rfl⟩, ok_w hw hW hcd rfl, ok_w hw hW hini rfl, hy, hn.to, ok_mn hw hW hlk⟩, ok_w hw hW hi rfl, trivial⟩ hpre rfl rfl hsz hst (lv_room h8) hd ⟨r3, r4⟩) K
theorem g_callI {idx a d w mc ms : Nat} {Y : MM} {As st0 : List Value} {P : Option Value → Hp → Prop} (hd : decode (mB M) pc = .ok (.invokespecial idx, 3)) (hm : MLn (mO M) idx Y) (hi : Cond.instanceMethod (mY Y) ∈ lw_tbl) (hnm : (mY Y).name = "<init>") (ht : mT Y = none) (hn : nPar Y As.length)
    (C : Ct X.1 (xl X) Y d w (.ref a :: As) h mc ms P) (hst : st0 = As.reverse ++ .ref a :: st) (h8 : catS st ≤ 8) (hr : rmOk X Y d w mc ms k n)
    (K : ∀ r h', P r h' → Go M X (pc + 3) lv (r.toList ++ st) h' (k + mc) (n + ms)) : Go M X pc lv st0 h k n := by
  obtain ⟨G, ⟨p, l, e, R, s, m, args, below, meth, c⟩, Q⟩ := X
  intro ok ls H locs hl hRf hq
  obtain ⟨o1, o2, o3, o4, o5, o6, o7, hW, hSy⟩ := id ok
  obtain ⟨A0, hw, hcl, hstt⟩ := id hSy
  obtain ⟨hlk, hcd, hini, hy⟩ := hm
  obtain ⟨r1, r2, r3, r4⟩ := hr
  have hpre : PreS s H (PcP G (.ref a :: As) h) (.ref a :: As) := ⟨PcP_blind _ _ _, fun U hU hWU => ⟨rfl, hSy, hW.trans hWU, by rw [hU]; exact hRf⟩⟩
  have hsz : (F0 m pc ls st0).locals.size = mL M := hl.1
  have hcd' : mCode Y = Cond.code (mY Y) (mB Y) (mL Y) none := by unfold mCode; rw [ht]
  rcases hlk with hlk | ⟨host, hlk⟩
  · exact g_back ok hl hq (va_runI (Ts := []) (n := As.length) (bytes := mB Y) (maxL := mL Y) ⟨o1, o2, o3, o4, fun _ z => by cases z⟩ C ⟨⟨rfl, rfl, r1, r2, code_w hw hW hcd, by rw [hcd']; exact List.mem_singleton.mpr rfl, by rw [← hcd']; exact ok_w hw hW hcd rfl, ok_w hw hW hini rfl, hy, hn.to, ok_w hw hW hlk rfl⟩, hnm, ok_w hw hW hi rfl⟩ hpre rfl rfl hsz hst (lv_room h8) hd ⟨r3, r4⟩) K
  · exact g_back ok hl hq (va_runIN (Ts := []) (n := As.length) (bytes := mB Y) (maxL := mL Y) ⟨o1, o2, o3, o4, fun _ z => by cases z⟩ C ⟨⟨⟨rfl, rfl, r1, r2, code_w hw hW hcd, by rw [hcd']; exact List.mem_singleton.mpr rfl⟩, by rw [← hcd']; exact ok_w hw hW hcd rfl, ok_w hw hW hini rfl, hy, hn.to, ok_mn hw hW hlk⟩, hnm, ok_w hw hW hi rfl⟩ hpre rfl rfl hsz hst (lv_room h8) hd ⟨r3, r4⟩) K
theorem g_objInit {idx a : Nat} (hd : decode (mB M) pc = .ok (.invokespecial idx, 3)) (hw1 : Cond.methodLink (mO M) idx objectInit ∈ lw_tbl) (hw2 : Cond.instanceMethod objectInit ∈ lw_tbl) (hw3 : Cond.code objectInit ⟨#[0xb1]⟩ 1 none ∈ lw_tbl) (h8 : catS st ≤ 8) (hr : 1 ≤ (xR X).frames ∧ 20 ≤ (xR X).locals) (K : Go M X (pc + 3) lv st h k n) : Go M X pc lv (.ref a :: st) h k n := by
  obtain ⟨G, ⟨p, l, e, R, s, m, args, below, meth, c⟩, Q⟩ := X
  intro ok ls H locs hl hRf hq
  obtain ⟨o1, o2, o3, o4, o5, o6, o7, hW, hSy⟩ := id ok
  obtain ⟨A0, hw, hcl, hstt⟩ := id hSy
  refine W.objInit o1 o2 o4 (ok_w hw hW hw1 rfl) (ok_w hw hW hw2 rfl) (ok_w hw hW hw3 rfl) rfl (by rw [o3]; exact hl.1) rfl hd hr.1 ?_ (K ok ls H locs hl hRf hq)
  have := lv_room (m := m) (pc := pc) (ls := ls) (rest := .ref a :: st) h8
  have h20 := hr.2
  show _ ≤ R.locals
  have h21 : 20 ≤ R.locals := h20
  omega
end CL
end
section
/-! constants, statics, casts, the JDK's natives -/
section L5
variable {M : MM} {X : Xr} {pc : Nat} {lv : List (Option Value)} {st : List Value} {h : Hp} {k n : Nat}
theorem g_ldc {idx : Nat} {v : Int32} (hd : decode (mB M) pc = .ok (.ldc idx, 2)) (hw1 : Cond.constant (mO M) idx v ∈ lw_tbl) (K : Go M X (pc + 2) lv (.int v :: st) h k n) : Go M X pc lv st h k n := by
  obtain ⟨G, ⟨p, l, e, R, s, m, args, below, meth, c⟩, Q⟩ := X
  intro ok ls H locs hl hRf hq
  obtain ⟨o1, o2, o3, o4, o5, o6, o7, hW, A0, hw, -⟩ := id ok
  exact lv_ldc o1 o2 o4 (ok_w hw hW hw1 rfl) hd (K ok ls H locs hl hRf hq)
theorem g_ldc2 {idx : Nat} {v : Int64} (hd : decode (mB M) pc = .ok (.ldc2_w idx, 3)) (hw1 : Cond.constantLong (mO M) idx v ∈ lw_tbl) (K : Go M X (pc + 3) lv (.long v :: st) h k n) : Go M X pc lv st h k n := by
  obtain ⟨G, ⟨p, l, e, R, s, m, args, below, meth, c⟩, Q⟩ := X
  intro ok ls H locs hl hRf hq
  obtain ⟨o1, o2, o3, o4, o5, o6, o7, hW, A0, hw, -⟩ := id ok
  exact lv_ldc2 o1 o2 o4 (ok_w hw hW hw1 rfl) hd (K ok ls H locs hl hRf hq)
theorem g_gets {idx t : Nat} {C nm ds : String} (hd : decode (mB M) pc = .ok (.getstatic idx, 3)) (hw1 : Cond.fieldLink (mO M) idx C nm ds ∈ lw_tbl) (hz : zSt X.1 → okZ X.1 C nm ds t) (K : Go M X (pc + 3) lv (.ref (gK X.1 t) :: st) h k n) : Go M X pc lv st h k n := by
  obtain ⟨G, ⟨p, l, e, R, s, m, args, below, meth, c⟩, Q⟩ := X
  intro ok ls H locs hl hRf hq
  obtain ⟨o1, o2, o3, o4, o5, o6, o7, hW, A0, hw, hcl, hz0⟩ := id ok
  obtain ⟨cf, kf, fi, f, a, cell, h1, h2, h3, h4, h5, h6, h7, h8⟩ := va_Z.moved hW.alike (hz hz0)
  exact W.gets o1 o2 o4 (ok_w hw hW hw1 rfl) h1 h2 h3 h4 (by rw [hRf.2.2.1 a (Array.getElem?_eq_some_iff.mp h5).1]; exact h5) (fun e => by rw [e] at h6; cases h6) h7 rfl hd (K ok ls H locs hl hRf hq)
/-- a fate's number -/
theorem g_fateA {idx t : Nat} (hd : decode (mB M) pc = .ok (.getfield idx, 3)) (hw1 : Cond.fieldLink (mO M) idx "SeptetCentre$Fate" "answer" "I" ∈ lw_tbl) (ht : 4 ≤ t ∧ t ≤ 7) (K : Go M X (pc + 3) lv (.int (fateA t) :: st) h k n) : Go M X pc lv (.ref (gK X.1 t) :: st) h k n := by
  obtain ⟨G, ⟨p, l, e, R, s, m, args, below, meth, c⟩, Q⟩ := X
  intro ok ls H locs hl hRf hq
  obtain ⟨o1, o2, o3, o4, o5, o6, o7, hW, A0, hw, hcl, hz0⟩ := id ok
  obtain ⟨cc, h1, h2, h3, ⟨cf, kf, x, f, h4, h5, h6⟩, -⟩ := hz0.2.2.1 t ht.1 ht.2
  obtain ⟨kf', hi', -⟩ := State.fieldFound?_setVm hW.alike h4
  exact W.getf o1 o2 o4 (ok_w hw hW hw1 rfl) (show s.fieldFound? _ _ _ = _ from hi') h5 (by rw [hRf.2.2.1 _ (Array.getElem?_eq_some_iff.mp h1).1]; exact h1) h3 h6 rfl rfl hd (K ok ls H locs hl hRf hq)
theorem g_fateR {idx t : Nat} (hd : decode (mB M) pc = .ok (.getfield idx, 3)) (hw1 : Cond.fieldLink (mO M) idx "SeptetCentre$Fate" "reported" "I" ∈ lw_tbl) (ht : 4 ≤ t ∧ t ≤ 7) (K : Go M X (pc + 3) lv (.int (fateR t) :: st) h k n) : Go M X pc lv (.ref (gK X.1 t) :: st) h k n := by
  obtain ⟨G, ⟨p, l, e, R, s, m, args, below, meth, c⟩, Q⟩ := X
  intro ok ls H locs hl hRf hq
  obtain ⟨o1, o2, o3, o4, o5, o6, o7, hW, A0, hw, hcl, hz0⟩ := id ok
  obtain ⟨cc, h1, h2, h3, -, cf, kf, x, f, h4, h5, h6⟩ := hz0.2.2.1 t ht.1 ht.2
  obtain ⟨kf', hi', -⟩ := State.fieldFound?_setVm hW.alike h4
  exact W.getf o1 o2 o4 (ok_w hw hW hw1 rfl) (show s.fieldFound? _ _ _ = _ from hi') h5 (by rw [hRf.2.2.1 _ (Array.getElem?_eq_some_iff.mp h1).1]; exact h1) h3 h6 rfl rfl hd (K ok ls H locs hl hRf hq)
theorem castW {G : Gx} {s : State} {A0 : Array Value} (hw : ∀ w ∈ lw_tbl, w.before A0 G.1 = true) (hW : G.1.WarmedH s.vm) {C D : String} (hin : Cond.castable C D ∈ lw_tbl) : va_Nw (.castable C D) s := va_Nw.warmC hW (va_Nw.of rfl (hw _ hin))
theorem g_cast {idx a ci z : Nat} {C : String} {T : u_T} {N : Nat} (hd : decode (mB M) pc = .ok (.checkcast idx, 3)) (hci : zCL[ci]? = some (C, T, N)) (hw1 : Cond.classLink (mO M) idx C ∈ lw_tbl) (hw2 : Cond.castable C C ∈ lw_tbl) (hs : hS h a = some (ci + 10, z)) (K : Go M X (pc + 3) lv (.ref a :: st) h k n) : Go M X pc lv (.ref a :: st) h k n := by
  obtain ⟨G, ⟨p, l, e, R, s, m, args, below, meth, c⟩, Q⟩ := X
  intro ok ls H locs hl hRf hq
  obtain ⟨o1, o2, o3, o4, o5, o6, o7, hW, A0, hw, hcl, hz0⟩ := id ok
  obtain ⟨cb, hcb, v1, v2, -⟩ := okO_c hRf hs hci
  have hfc := (u_Kn_moved hW.alike (hcl ci _ hci).1).2.1
  exact va_castY o1 o2 o4 (ok_w hw hW hw1 rfl) (castW hw hW hw2) ⟨cb, hcb, by rw [v2]; rfl, by rw [v1]; exact hfc⟩ hd (K ok ls H locs hl hRf hq)
theorem asg_of {G : Gx} (hSy : SysF G) {ci : Nat} {C D : String} {T : u_T} {N : Nat} (hci : zCL[ci]? = some (C, T, N)) (hw2 : Cond.castable C D ∈ lw_tbl) : Asg G D ci := by
  intro s hW comp hcomp
  obtain ⟨A0, hw, hcl, hz0⟩ := hSy
  have hfc := (u_Kn_moved hW.alike (hcl ci _ hci).1).2.1
  obtain ⟨c0, t0, f1, f2, f3⟩ := Cond.castable_spec (va_Nw.use (A := #[]) rfl (castW hw hW hw2))
  cases hfc.symm.trans f1
  cases hcomp.symm.trans f2
  exact f3
theorem g_min {idx : Nat} {x y : Int32} (hd : decode (mB M) pc = .ok (.invokestatic idx, 3)) (hw1 : Cond.methodLink (mO M) idx Lib.Math.min.name ∈ lw_tbl) (h8 : catS st ≤ 8) (hr : 1 ≤ (xR X).frames ∧ 21 ≤ (xR X).locals ∧ k ≤ (xR X).cells ∧ n ≤ (xR X).slots) (hw2 : Cond.static Lib.Math.min.name ∈ lw_tbl) (hw3 : Cond.initialized "java/lang/Math" ∈ lw_tbl) (hw4 : Cond.code Lib.Math.min.name Lib.Math.min.code 2 (some .int) ∈ lw_tbl) (K : Go M X (pc + 3) lv (.int (if y < x then y else x) :: st) h k n) : Go M X pc lv (.int y :: .int x :: st) h k n := by
  obtain ⟨G, ⟨p, l, e, R, s, m, args, below, meth, c⟩, Q⟩ := X
  intro ok ls H locs hl hRf hq
  obtain ⟨o1, o2, o3, o4, o5, o6, o7, hW, A0, hw, hcl, hz0⟩ := id ok
  obtain ⟨r1, r2, r3, r4⟩ := hr
  have r2' : 21 ≤ R.locals := r2
  have h8' : (st.map fun v => v.category).sum ≤ 8 := h8
  exact va_mmin o1 o2 (by rw [o3]; exact hl.1.symm) o4 (ok_w hw hW hw1 rfl) (ok_w hw hW hw2 rfl) (ok_w hw hW hw3 rfl) (ok_w hw hW hw4 rfl) r1 (by omega) r3 r4 hd (K ok ls H locs hl hRf hq)
theorem g_max {idx : Nat} {x y : Int32} (hd : decode (mB M) pc = .ok (.invokestatic idx, 3)) (hw1 : Cond.methodLink (mO M) idx Lib.Math.max.name ∈ lw_tbl) (h8 : catS st ≤ 8) (hr : 1 ≤ (xR X).frames ∧ 21 ≤ (xR X).locals ∧ k ≤ (xR X).cells ∧ n ≤ (xR X).slots) (hw2 : Cond.static Lib.Math.max.name ∈ lw_tbl) (hw3 : Cond.initialized "java/lang/Math" ∈ lw_tbl) (hw4 : Cond.code Lib.Math.max.name Lib.Math.max.code 2 (some .int) ∈ lw_tbl) (K : Go M X (pc + 3) lv (.int (if x < y then y else x) :: st) h k n) : Go M X pc lv (.int y :: .int x :: st) h k n := by
  obtain ⟨G, ⟨p, l, e, R, s, m, args, below, meth, c⟩, Q⟩ := X
  intro ok ls H locs hl hRf hq
  obtain ⟨o1, o2, o3, o4, o5, o6, o7, hW, A0, hw, hcl, hz0⟩ := id ok
  obtain ⟨r1, r2, r3, r4⟩ := hr
  have r2' : 21 ≤ R.locals := r2
  have h8' : (st.map fun v => v.category).sum ≤ 8 := h8
  exact va_mmax o1 o2 (by rw [o3]; exact hl.1.symm) o4 (ok_w hw hW hw1 rfl) (ok_w hw hW hw2 rfl) (ok_w hw hW hw3 rfl) (ok_w hw hW hw4 rfl) r1 (by omega) r3 r4 hd (K ok ls H locs hl hRf hq)
theorem g_ldcM {idx : Nat} (hd : decode (mB M) pc = .ok (.ldc idx, 2)) (hw1 : Cond.classLink (mO M) idx "[Ljava/lang/Object;" ∈ lw_tbl) (K : Go M X (pc + 2) lv (.ref (gK X.1 8) :: st) h k n) : Go M X pc lv st h k n := by
  obtain ⟨G, ⟨p, l, e, R, s, m, args, below, meth, c⟩, Q⟩ := X
  intro ok ls H locs hl hRf hq
  obtain ⟨o1, o2, o3, o4, o5, o6, o7, hW, A0, hw, hcl, hz0⟩ := id ok
  exact va_ldcM o1 o2 o4 (ok_w hw hW hw1 rfl) (va_Mi.moved hW.alike hz0.2.2.2.2.2.2.1) hd (K ok ls H locs hl hRf hq)
def yGetC : MethodName := ⟨"java/lang/Object", "getClass", "()Ljava/lang/Class;"⟩
theorem g_getC {idx a N : Nat} (hd : decode (mB M) pc = .ok (.invokevirtual idx, 3)) (hw1 : Cond.methodLink (mO M) idx yGetC ∈ lw_tbl) (hw2 : Cond.declares yGetC ∈ lw_tbl) (hw3 : Cond.selects "[Ljava/lang/Object;" yGetC yGetC ∈ lw_tbl) (hw4 : Cond.instanceMethod yGetC ∈ lw_tbl) (hw5 : Cond.native yGetC ∈ lw_tbl) (hs : hS h a = some (3, N)) (h8 : catS st ≤ 8) (hr : 1 ≤ (xR X).frames ∧ 22 ≤ (xR X).locals) (K : Go M X (pc + 3) lv (.ref (gK X.1 8) :: st) h k n) : Go M X pc lv (.ref a :: st) h k n := by
  obtain ⟨G, ⟨p, l, e, R, s, m, args, below, meth, c⟩, Q⟩ := X
  intro ok ls H locs hl hRf hq
  obtain ⟨o1, o2, o3, o4, o5, o6, o7, hW, A0, hw, hcl, hz0⟩ := id ok
  obtain ⟨cc, hc, hok, -⟩ := hRf.1 a _ hs
  obtain ⟨f1, kA, comp, f2, f3, f4, f5⟩ := hok.2.2.2.1 (show 3 ≤ 3 by decide) (show 3 ≤ 5 by decide)
  have r2' : 22 ≤ R.locals := hr.2
  have h8' : (st.map fun v => v.category).sum ≤ 8 := h8
  have hvm : cc.vm.isStatics = false := by rw [f1]; rfl
  exact va_getC o1 o2 (by rw [o3]; exact hl.1.symm) o4 (ok_w hw hW hw1 rfl) (va_Nw.use rfl (va_Nw.warmD hW (va_Nw.of rfl (hw _ hw2)))) (ok_w hw hW hw3 rfl) (ok_w hw hW hw4 rfl) (ok_w hw hW hw5 rfl) (va_Mi.moved hW.alike hz0.2.2.2.2.2.2.1) ⟨cc, hc, hvm, by rw [hW.alike.findClass]; exact f5⟩ hr.1 (by omega) hd (K ok ls H locs hl hRf hq)
/-- System.arraycopy between two rows of objects -/
theorem g_acopy {idx a0 a n0 n1 sp dp c0 : Nat} {xs xd xc : Int32} (hd : decode (mB M) pc = .ok (.invokestatic idx, 3)) (hw1 : Cond.methodLink (mO M) idx arraycopyName ∈ lw_tbl) (hw2 : Cond.native arraycopyName ∈ lw_tbl) (hw3 : Cond.static arraycopyName ∈ lw_tbl) (hw4 : Cond.initialized "java/lang/System" ∈ lw_tbl)
    (hs0 : hS h a0 = some (3, n0)) (hs1 : hS h a = some (3, n1)) (e1 : xs = nI sp) (e2 : xd = nI dp) (e3 : xc = nI c0) (h4 : sp + c0 ≤ n0) (h5 : dp + c0 ≤ n1) (hb : n0 < 2147483648 ∧ n1 < 2147483648)
    (hel : ∀ i, i < c0 → ∀ y, hR h a0 (sp + i) = some y → ∃ ci z, hS h y = some (ci + 10, z) ∧ (zCL[ci]?).isSome = true ∧ (SysF X.1 → Asg X.1 "java/lang/Object" ci))
    (h8 : catS st ≤ 8) (hr : 1 ≤ (xR X).frames ∧ 8 + (nativeFrameWords "java/lang/System" "arraycopy" 5 + 11) ≤ (xR X).locals)
    (K : Go M X (pc + 3) lv st (pA h a (va_cpy (hR h a0) (hR h a) sp dp c0)) k n) : Go M X pc lv (.int xc :: .int xd :: .ref a :: .int xs :: .ref a0 :: st) h k n := by
  obtain ⟨G, ⟨p, l, e, R, s, m, args, below, meth, c⟩, Q⟩ := X
  intro ok ls H locs hl hRf hq
  obtain ⟨o1, o2, o3, o4, o5, o6, o7, hW, hSy⟩ := id ok
  obtain ⟨A0, hw, hcl, hz0⟩ := id hSy
  have r2' : 8 + (nativeFrameWords "java/lang/System" "arraycopy" 5 + 11) ≤ R.locals := hr.2
  have h8' : (st.map fun v => v.category).sum ≤ 8 := h8
  obtain ⟨cs, hcs, oks, -⟩ := hRf.1 a0 _ hs0
  obtain ⟨cd, hcd, okd, -⟩ := hRf.1 a _ hs1
  have qs := oks.2.2.2.1 (show 3 ≤ 3 by decide) (show 3 ≤ 5 by decide)
  have qd := okd.2.2.2.1 (show 3 ≤ 3 by decide) (show 3 ≤ 5 by decide)
  obtain ⟨s1, kS, cS, s2, s3, s4, -⟩ := id qs
  obtain ⟨d1, kD, cD, d2, d3, d4, d5⟩ := id qd
  have hal := hW.alike
  obtain ⟨kS', hkS', heS⟩ := hal.2.2 _ _ s2
  obtain ⟨kD', hkD', heD⟩ := hal.2.2 _ _ d2
  have bs : sp < 2147483648 := by omega
  have bd : dp < 2147483648 := by omega
  have bc : c0 < 2147483648 := by omega
  have ti : ∀ j : Nat, j < 2147483648 → (nI j).toInt = (j : Int) := fun j hj => nI_toInt hj
  subst e1 e2 e3
  intro T hT Y
  have szs : cs.slots.size = n0 := by rw [s1]; exact arrV_size _ _ _
  have szd : cd.slots.size = n1 := by rw [d1]; exact arrV_size _ _ _
  have vms : cs.vm = .none := by rw [s1]; rfl
  have vmd : cd.vm = .none := by rw [d1]; rfl
  have rdc : ∀ (cA : ClassId) (N : Nat) (f : Nat → Option Nat) (j : Nat), j < N → (arrV cA N (fun j => va_rf (f j))).slots.getD j .null = va_rf (f j) := fun cA N f j hj => by
    rw [Array.getD_eq_getD_getElem?, arrV_read _ _ hj]
    rfl
  obtain ⟨vm', X', step⟩ := Y.arraycopy o1 o4 (ok_w hw hW hw1 rfl) (ok_w hw hW hw2 rfl) (ok_w hw hW hw3 rfl) (ok_w hw hW hw4 rfl) (src := a0) (dst := a) (cs := cs) (cd := cd) (srcPos := nI sp) (destPos := nI dp) (n := nI c0) (by rw [hT]; exact hcs) (by rw [hT]; exact hcd)
    (fun _ z => by rw [vms] at z; cases z) (fun _ z => by rw [vmd] at z; cases z) (fun z => by rw [vms] at z; cases z) (fun z => by rw [vmd] at z; cases z) hkS' hkD' (by rw [heS]; exact s3) (by rw [heD]; exact d3) rfl (nI_pos bs) (nI_pos bd) (nI_pos bc)
    (by rw [ti _ bs, ti _ bc, szs]; omega)
    (by rw [ti _ bd, ti _ bc, szd]; omega)
    (fun vm₁ hal1 i hi => by
      rw [nI_clamp bc] at hi
      rw [nI_clamp bs]
      have e : cs.slots.getD (sp + i) .null = va_rf (hR h a0 (sp + i)) := by rw [s1]; exact rdc _ _ _ _ (by omega)
      rw [e]
      cases hy : hR h a0 (sp + i) with
      | none => exact ⟨rfl, trivial⟩
      | some y =>
        obtain ⟨ci, z, y1, y2, y3⟩ := hel i hi y hy
        obtain ⟨q, hq1⟩ := Option.isSome_iff_exists.mp y2
        obtain ⟨cv, hcv, v1, v2, -⟩ := okO_c hRf y1 hq1
        obtain ⟨-, hfc, kC, hkC, hkind⟩ := u_Kn_moved hW.alike (hcl ci q hq1).1
        have hcs2 : s.vm.findClass "java/lang/Object" = some cD := by rw [hW.alike.findClass]; exact d4
        obtain ⟨kE, hkE, -⟩ := Vm.findClass_spec hcs2
        obtain ⟨kC', hkC', -⟩ := hal1.2.2 _ _ hkC
        obtain ⟨kE', hkE', -⟩ := hal1.2.2 _ _ hkE
        refine ⟨rfl, cv, (show T.heap[y]? = some cv by rw [hT]; exact hcv), (fun q z => by rw [v2] at z; cases z), ⟨kC', by rw [v1]; exact hkC'⟩, ⟨kE', hkE'⟩, ?_⟩
        show vm₁.assignable _ _ = true
        rw [hal1.assignable, v1]
        exact y3 hSy s hW cD hcs2)
    (g := F0 m pc ls (.int (nI c0) :: .int (nI dp) :: .ref a :: .int (nI sp) :: .ref a0 :: st)) rfl (by rw [o3]; exact hl.1) (rest := st) rfl (by rw [o2]; exact hd) hr.1 (by show 2 * 0 + _ + _ ≤ _; omega)
  have ec : copied cs cd (nI sp) (nI dp) (nI c0) = arrV cd.cls n1 (fun j => va_rf (va_cpy (hR h a0) (hR h a) sp dp c0 j)) := by
    have := va_copied (fun z => va_rf z) cs.cls cd.cls (n0 := n0) (n1 := n1) (sp := (nI sp).toNatClampNeg) (dp := (nI dp).toNatClampNeg) (n := (nI c0).toNatClampNeg) (hR h a0) (hR h a) (by rw [nI_clamp bs, nI_clamp bc]; exact h4)
    rw [nI_clamp bs, nI_clamp bd, nI_clamp bc] at this
    unfold copied
    rw [nI_clamp bs, nI_clamp bd, nI_clamp bc, ← this, ← s1, ← d1]
  rw [ec] at X' step
  have hlt : a < H.size := (Array.getElem?_eq_some_iff.mp hcd).1
  have hheap : ((T.setVm vm').setCell a (arrV cd.cls n1 (fun j => va_rf (va_cpy (hR h a0) (hR h a) sp dp c0 j)))).heap = H.setIfInBounds a (arrV cd.cls n1 (fun j => va_rf (va_cpy (hR h a0) (hR h a) sp dp c0 j))) := by rw [← hT]; rfl
  have hc' : (H.setIfInBounds a (arrV cd.cls n1 (fun j => va_rf (va_cpy (hR h a0) (hR h a) sp dp c0 j))))[a]? = some (arrV cd.cls n1 (fun j => va_rf (va_cpy (hR h a0) (hR h a) sp dp c0 j))) := by simp [Array.getElem?_setIfInBounds, hlt]
  have ho : ∀ q, q ≠ a → (H.setIfInBounds a (arrV cd.cls n1 (fun j => va_rf (va_cpy (hR h a0) (hR h a) sp dp c0 j))))[q]? = H[q]? := fun q hq => by simp [Array.getElem?_setIfInBounds, Ne.symm hq]
  have hR2 := hRf.set (h' := pA h a (va_cpy (hR h a0) (hR h a) sp dp c0)) hs1 rfl (fun b hb => ⟨rfl, rfl, by funext y; simp [hR, pA, hb]⟩) hc' ⟨fun z => by simp at z, fun z => by simp at z, fun z => by simp at z, fun _ _ => by
    refine ⟨?_, kD, cD, d2, d3, d4, d5⟩
    have : hR (pA h a (va_cpy (hR h a0) (hR h a) sp dp c0)) a = va_cpy (hR h a0) (hR h a) sp dp c0 := by funext y; simp [hR, pA]
    rw [this]
    rfl, fun ci z => by simp at z⟩ (by simp) ho
  obtain ⟨t, a1, b1⟩ := K ok ls _ _ hl hR2.1 (fun q hqm => by
    rcases List.mem_append.mp hqm with z | z
    · exact hq q z
    · obtain ⟨z1, -, hz1⟩ := List.mem_map.mp z
      rw [← hz1]
      exact hR2.2) _ hheap X'
  exact ⟨t, step t a1, b1⟩
end L5
end
section
theorem d_SC_init_0 : decode prog_1_method_1_code 0 = .ok (.aload_n 0, 1) := by decide +kernel
theorem d_SC_init_1 : decode prog_1_method_1_code 1 = .ok (.invokespecial 1, 3) := by decide +kernel
theorem d_SC_init_4 : decode prog_1_method_1_code 4 = .ok (.aload_n 0, 1) := by decide +kernel
theorem d_SC_init_5 : decode prog_1_method_1_code 5 = .ok (.iconst 4, 1) := by decide +kernel
theorem d_SC_init_6 : decode prog_1_method_1_code 6 = .ok (.anewarray 9, 3) := by decide +kernel
theorem d_SC_init_9 : decode prog_1_method_1_code 9 = .ok (.putfield 11, 3) := by decide +kernel
theorem d_SC_init_12 : decode prog_1_method_1_code 12 = .ok (.aload_n 0, 1) := by decide +kernel
theorem d_SC_init_13 : decode prog_1_method_1_code 13 = .ok (.new 15, 3) := by decide +kernel
theorem d_SC_init_16 : decode prog_1_method_1_code 16 = .ok (.dup, 1) := by decide +kernel
theorem d_SC_init_17 : decode prog_1_method_1_code 17 = .ok (.bipush 8, 2) := by decide +kernel
theorem d_SC_init_19 : decode prog_1_method_1_code 19 = .ok (.invokespecial 17, 3) := by decide +kernel
theorem d_SC_init_22 : decode prog_1_method_1_code 22 = .ok (.putfield 20, 3) := by decide +kernel
theorem d_SC_init_25 : decode prog_1_method_1_code 25 = .ok (.aload_n 0, 1) := by decide +kernel
theorem d_SC_init_26 : decode prog_1_method_1_code 26 = .ok (.new 24, 3) := by decide +kernel
theorem d_SC_init_29 : decode prog_1_method_1_code 29 = .ok (.dup, 1) := by decide +kernel
theorem d_SC_init_30 : decode prog_1_method_1_code 30 = .ok (.invokespecial 26, 3) := by decide +kernel
theorem d_SC_init_33 : decode prog_1_method_1_code 33 = .ok (.putfield 27, 3) := by decide +kernel
theorem d_SC_init_36 : decode prog_1_method_1_code 36 = .ok (.aload_n 0, 1) := by decide +kernel
theorem d_SC_init_37 : decode prog_1_method_1_code 37 = .ok (.new 31, 3) := by decide +kernel
theorem d_SC_init_40 : decode prog_1_method_1_code 40 = .ok (.dup, 1) := by decide +kernel
theorem d_SC_init_41 : decode prog_1_method_1_code 41 = .ok (.invokespecial 33, 3) := by decide +kernel
theorem d_SC_init_44 : decode prog_1_method_1_code 44 = .ok (.putfield 34, 3) := by decide +kernel
theorem d_SC_init_47 : decode prog_1_method_1_code 47 = .ok (.aload_n 0, 1) := by decide +kernel
theorem d_SC_init_48 : decode prog_1_method_1_code 48 = .ok (.new 31, 3) := by decide +kernel
theorem d_SC_init_51 : decode prog_1_method_1_code 51 = .ok (.dup, 1) := by decide +kernel
theorem d_SC_init_52 : decode prog_1_method_1_code 52 = .ok (.invokespecial 33, 3) := by decide +kernel
theorem d_SC_init_55 : decode prog_1_method_1_code 55 = .ok (.putfield 38, 3) := by decide +kernel
theorem d_SC_init_58 : decode prog_1_method_1_code 58 = .ok (.iconst 0, 1) := by decide +kernel
theorem d_SC_init_59 : decode prog_1_method_1_code 59 = .ok (.istore_n 1, 1) := by decide +kernel
theorem d_SC_init_60 : decode prog_1_method_1_code 60 = .ok (.iload_n 1, 1) := by decide +kernel
theorem d_SC_init_61 : decode prog_1_method_1_code 61 = .ok (.iconst 4, 1) := by decide +kernel
theorem d_SC_init_62 : decode prog_1_method_1_code 62 = .ok (.if_icmp .ge 22, 3) := by decide +kernel
theorem d_SC_init_65 : decode prog_1_method_1_code 65 = .ok (.aload_n 0, 1) := by decide +kernel
theorem d_SC_init_66 : decode prog_1_method_1_code 66 = .ok (.getfield 11, 3) := by decide +kernel
theorem d_SC_init_69 : decode prog_1_method_1_code 69 = .ok (.iload_n 1, 1) := by decide +kernel
theorem d_SC_init_70 : decode prog_1_method_1_code 70 = .ok (.new 9, 3) := by decide +kernel
theorem d_SC_init_73 : decode prog_1_method_1_code 73 = .ok (.dup, 1) := by decide +kernel
theorem d_SC_init_74 : decode prog_1_method_1_code 74 = .ok (.invokespecial 41, 3) := by decide +kernel
theorem d_SC_init_77 : decode prog_1_method_1_code 77 = .ok (.aastore, 1) := by decide +kernel
theorem d_SC_init_78 : decode prog_1_method_1_code 78 = .ok (.iinc 1 1, 3) := by decide +kernel
theorem d_SC_init_81 : decode prog_1_method_1_code 81 = .ok (.goto (-21), 3) := by decide +kernel
theorem d_SC_init_84 : decode prog_1_method_1_code 84 = .ok (.return_, 1) := by decide +kernel
theorem d_SC_register_0 : decode prog_1_method_2_code 0 = .ok (.aload_n 0, 1) := by decide +kernel
theorem d_SC_register_1 : decode prog_1_method_2_code 1 = .ok (.iload_n 1, 1) := by decide +kernel
theorem d_SC_register_2 : decode prog_1_method_2_code 2 = .ok (.invokevirtual 42, 3) := by decide +kernel
theorem d_SC_register_5 : decode prog_1_method_2_code 5 = .ok (.astore 4, 2) := by decide +kernel
theorem d_SC_register_7 : decode prog_1_method_2_code 7 = .ok (.aload 4, 2) := by decide +kernel
theorem d_SC_register_9 : decode prog_1_method_2_code 9 = .ok (.ifnull 10, 3) := by decide +kernel
theorem d_SC_register_12 : decode prog_1_method_2_code 12 = .ok (.lload_n 2, 1) := by decide +kernel
theorem d_SC_register_13 : decode prog_1_method_2_code 13 = .ok (.invokestatic 46, 3) := by decide +kernel
theorem d_SC_register_16 : decode prog_1_method_2_code 16 = .ok (.ifCond .ne 5, 3) := by decide +kernel
theorem d_SC_register_19 : decode prog_1_method_2_code 19 = .ok (.iconst 0, 1) := by decide +kernel
theorem d_SC_register_20 : decode prog_1_method_2_code 20 = .ok (.ireturn, 1) := by decide +kernel
theorem d_SC_register_21 : decode prog_1_method_2_code 21 = .ok (.aload 4, 2) := by decide +kernel
theorem d_SC_register_23 : decode prog_1_method_2_code 23 = .ok (.lload_n 2, 1) := by decide +kernel
theorem d_SC_register_24 : decode prog_1_method_2_code 24 = .ok (.putfield 50, 3) := by decide +kernel
theorem d_SC_register_27 : decode prog_1_method_2_code 27 = .ok (.iconst 1, 1) := by decide +kernel
theorem d_SC_register_28 : decode prog_1_method_2_code 28 = .ok (.ireturn, 1) := by decide +kernel
theorem d_SC_power_0 : decode prog_1_method_3_code 0 = .ok (.aload_n 0, 1) := by decide +kernel
theorem d_SC_power_1 : decode prog_1_method_3_code 1 = .ok (.iload_n 1, 1) := by decide +kernel
theorem d_SC_power_2 : decode prog_1_method_3_code 2 = .ok (.invokevirtual 42, 3) := by decide +kernel
theorem d_SC_power_5 : decode prog_1_method_3_code 5 = .ok (.astore_n 3, 1) := by decide +kernel
theorem d_SC_power_6 : decode prog_1_method_3_code 6 = .ok (.aload_n 3, 1) := by decide +kernel
theorem d_SC_power_7 : decode prog_1_method_3_code 7 = .ok (.ifnonnull 5, 3) := by decide +kernel
theorem d_SC_power_10 : decode prog_1_method_3_code 10 = .ok (.iconst 0, 1) := by decide +kernel
theorem d_SC_power_11 : decode prog_1_method_3_code 11 = .ok (.ireturn, 1) := by decide +kernel
theorem d_SC_power_12 : decode prog_1_method_3_code 12 = .ok (.aload_n 3, 1) := by decide +kernel
theorem d_SC_power_13 : decode prog_1_method_3_code 13 = .ok (.iload_n 2, 1) := by decide +kernel
theorem d_SC_power_14 : decode prog_1_method_3_code 14 = .ok (.putfield 54, 3) := by decide +kernel
theorem d_SC_power_17 : decode prog_1_method_3_code 17 = .ok (.iconst 1, 1) := by decide +kernel
theorem d_SC_power_18 : decode prog_1_method_3_code 18 = .ok (.ireturn, 1) := by decide +kernel
theorem d_SC_type_0 : decode prog_1_method_4_code 0 = .ok (.iload_n 2, 1) := by decide +kernel
theorem d_SC_type_1 : decode prog_1_method_4_code 1 = .ok (.iconst 1, 1) := by decide +kernel
theorem d_SC_type_2 : decode prog_1_method_4_code 2 = .ok (.if_icmp .lt 21, 3) := by decide +kernel
theorem d_SC_type_5 : decode prog_1_method_4_code 5 = .ok (.iload_n 2, 1) := by decide +kernel
theorem d_SC_type_6 : decode prog_1_method_4_code 6 = .ok (.sipush 160, 3) := by decide +kernel
theorem d_SC_type_9 : decode prog_1_method_4_code 9 = .ok (.if_icmp .gt 14, 3) := by decide +kernel
theorem d_SC_type_12 : decode prog_1_method_4_code 12 = .ok (.iload_n 2, 1) := by decide +kernel
theorem d_SC_type_13 : decode prog_1_method_4_code 13 = .ok (.aload_n 0, 1) := by decide +kernel
theorem d_SC_type_14 : decode prog_1_method_4_code 14 = .ok (.getfield 27, 3) := by decide +kernel
theorem d_SC_type_17 : decode prog_1_method_4_code 17 = .ok (.invokevirtual 58, 3) := by decide +kernel
theorem d_SC_type_20 : decode prog_1_method_4_code 20 = .ok (.if_icmp .le 5, 3) := by decide +kernel
theorem d_SC_type_23 : decode prog_1_method_4_code 23 = .ok (.iconst 0, 1) := by decide +kernel
theorem d_SC_type_24 : decode prog_1_method_4_code 24 = .ok (.ireturn, 1) := by decide +kernel
theorem d_SC_type_25 : decode prog_1_method_4_code 25 = .ok (.aload_n 0, 1) := by decide +kernel
theorem d_SC_type_26 : decode prog_1_method_4_code 26 = .ok (.getfield 27, 3) := by decide +kernel
theorem d_SC_type_29 : decode prog_1_method_4_code 29 = .ok (.iload_n 1, 1) := by decide +kernel
theorem d_SC_type_30 : decode prog_1_method_4_code 30 = .ok (.invokestatic 62, 3) := by decide +kernel
theorem d_SC_type_33 : decode prog_1_method_4_code 33 = .ok (.iload_n 2, 1) := by decide +kernel
theorem d_SC_type_34 : decode prog_1_method_4_code 34 = .ok (.invokevirtual 68, 3) := by decide +kernel
theorem d_SC_type_37 : decode prog_1_method_4_code 37 = .ok (.iconst 1, 1) := by decide +kernel
theorem d_SC_type_38 : decode prog_1_method_4_code 38 = .ok (.ireturn, 1) := by decide +kernel
theorem d_SC_wipe_0 : decode prog_1_method_5_code 0 = .ok (.aload_n 0, 1) := by decide +kernel
theorem d_SC_wipe_1 : decode prog_1_method_5_code 1 = .ok (.getfield 27, 3) := by decide +kernel
theorem d_SC_wipe_4 : decode prog_1_method_5_code 4 = .ok (.iconst 0, 1) := by decide +kernel
theorem d_SC_wipe_5 : decode prog_1_method_5_code 5 = .ok (.putfield 72, 3) := by decide +kernel
theorem d_SC_wipe_8 : decode prog_1_method_5_code 8 = .ok (.return_, 1) := by decide +kernel
theorem d_SC_send_0 : decode prog_1_method_6_code 0 = .ok (.aload_n 0, 1) := by decide +kernel
theorem d_SC_send_1 : decode prog_1_method_6_code 1 = .ok (.iload_n 1, 1) := by decide +kernel
theorem d_SC_send_2 : decode prog_1_method_6_code 2 = .ok (.invokevirtual 42, 3) := by decide +kernel
theorem d_SC_send_5 : decode prog_1_method_6_code 5 = .ok (.astore 6, 2) := by decide +kernel
theorem d_SC_send_7 : decode prog_1_method_6_code 7 = .ok (.aload 6, 2) := by decide +kernel
theorem d_SC_send_9 : decode prog_1_method_6_code 9 = .ok (.ifnull 33, 3) := by decide +kernel
theorem d_SC_send_12 : decode prog_1_method_6_code 12 = .ok (.lload_n 2, 1) := by decide +kernel
theorem d_SC_send_13 : decode prog_1_method_6_code 13 = .ok (.invokestatic 46, 3) := by decide +kernel
theorem d_SC_send_16 : decode prog_1_method_6_code 16 = .ok (.ifCond .eq 26, 3) := by decide +kernel
theorem d_SC_send_19 : decode prog_1_method_6_code 19 = .ok (.iload 4, 2) := by decide +kernel
theorem d_SC_send_21 : decode prog_1_method_6_code 21 = .ok (.ifCond .lt 21, 3) := by decide +kernel
theorem d_SC_send_24 : decode prog_1_method_6_code 24 = .ok (.iload 4, 2) := by decide +kernel
theorem d_SC_send_26 : decode prog_1_method_6_code 26 = .ok (.sipush 143, 3) := by decide +kernel
theorem d_SC_send_29 : decode prog_1_method_6_code 29 = .ok (.if_icmp .gt 13, 3) := by decide +kernel
theorem d_SC_send_32 : decode prog_1_method_6_code 32 = .ok (.aload 6, 2) := by decide +kernel
theorem d_SC_send_34 : decode prog_1_method_6_code 34 = .ok (.getfield 50, 3) := by decide +kernel
theorem d_SC_send_37 : decode prog_1_method_6_code 37 = .ok (.lconst 0, 1) := by decide +kernel
theorem d_SC_send_38 : decode prog_1_method_6_code 38 = .ok (.lcmp, 1) := by decide +kernel
theorem d_SC_send_39 : decode prog_1_method_6_code 39 = .ok (.ifCond .ne 5, 3) := by decide +kernel
theorem d_SC_send_42 : decode prog_1_method_6_code 42 = .ok (.iconst (-1), 1) := by decide +kernel
theorem d_SC_send_43 : decode prog_1_method_6_code 43 = .ok (.ireturn, 1) := by decide +kernel
theorem d_SC_send_44 : decode prog_1_method_6_code 44 = .ok (.aload_n 0, 1) := by decide +kernel
theorem d_SC_send_45 : decode prog_1_method_6_code 45 = .ok (.getfield 27, 3) := by decide +kernel
theorem d_SC_send_48 : decode prog_1_method_6_code 48 = .ok (.invokevirtual 76, 3) := by decide +kernel
theorem d_SC_send_51 : decode prog_1_method_6_code 51 = .ok (.ifCond .eq 6, 3) := by decide +kernel
theorem d_SC_send_54 : decode prog_1_method_6_code 54 = .ok (.bipush (-4), 2) := by decide +kernel
theorem d_SC_send_56 : decode prog_1_method_6_code 56 = .ok (.ireturn, 1) := by decide +kernel
theorem d_SC_send_57 : decode prog_1_method_6_code 57 = .ok (.aload_n 0, 1) := by decide +kernel
theorem d_SC_send_58 : decode prog_1_method_6_code 58 = .ok (.getfield 27, 3) := by decide +kernel
theorem d_SC_send_61 : decode prog_1_method_6_code 61 = .ok (.invokevirtual 80, 3) := by decide +kernel
theorem d_SC_send_64 : decode prog_1_method_6_code 64 = .ok (.istore 7, 2) := by decide +kernel
theorem d_SC_send_66 : decode prog_1_method_6_code 66 = .ok (.iload 7, 2) := by decide +kernel
theorem d_SC_send_68 : decode prog_1_method_6_code 68 = .ok (.iconst 3, 1) := by decide +kernel
theorem d_SC_send_69 : decode prog_1_method_6_code 69 = .ok (.if_icmp .le 6, 3) := by decide +kernel
theorem d_SC_send_72 : decode prog_1_method_6_code 72 = .ok (.bipush (-5), 2) := by decide +kernel
theorem d_SC_send_74 : decode prog_1_method_6_code 74 = .ok (.ireturn, 1) := by decide +kernel
theorem d_SC_send_75 : decode prog_1_method_6_code 75 = .ok (.iload 7, 2) := by decide +kernel
theorem d_SC_send_77 : decode prog_1_method_6_code 77 = .ok (.aload_n 0, 1) := by decide +kernel
theorem d_SC_send_78 : decode prog_1_method_6_code 78 = .ok (.getfield 20, 3) := by decide +kernel
theorem d_SC_send_81 : decode prog_1_method_6_code 81 = .ok (.invokevirtual 83, 3) := by decide +kernel
theorem d_SC_send_84 : decode prog_1_method_6_code 84 = .ok (.if_icmp .le 6, 3) := by decide +kernel
theorem d_SC_send_87 : decode prog_1_method_6_code 87 = .ok (.bipush (-3), 2) := by decide +kernel
theorem d_SC_send_89 : decode prog_1_method_6_code 89 = .ok (.ireturn, 1) := by decide +kernel
theorem d_SC_send_90 : decode prog_1_method_6_code 90 = .ok (.bipush 17, 2) := by decide +kernel
theorem d_SC_send_92 : decode prog_1_method_6_code 92 = .ok (.iload 5, 2) := by decide +kernel
theorem d_SC_send_94 : decode prog_1_method_6_code 94 = .ok (.ifCond .eq 8, 3) := by decide +kernel
theorem d_SC_send_97 : decode prog_1_method_6_code 97 = .ok (.bipush 32, 2) := by decide +kernel
theorem d_SC_send_99 : decode prog_1_method_6_code 99 = .ok (.goto 4, 3) := by decide +kernel
theorem d_SC_send_102 : decode prog_1_method_6_code 102 = .ok (.iconst 0, 1) := by decide +kernel
theorem d_SC_send_103 : decode prog_1_method_6_code 103 = .ok (.iadd, 1) := by decide +kernel
theorem d_SC_send_104 : decode prog_1_method_6_code 104 = .ok (.iload 7, 2) := by decide +kernel
theorem d_SC_send_106 : decode prog_1_method_6_code 106 = .ok (.iconst 1, 1) := by decide +kernel
theorem d_SC_send_107 : decode prog_1_method_6_code 107 = .ok (.if_icmp .le 8, 3) := by decide +kernel
theorem d_SC_send_110 : decode prog_1_method_6_code 110 = .ok (.bipush 64, 2) := by decide +kernel
theorem d_SC_send_112 : decode prog_1_method_6_code 112 = .ok (.goto 4, 3) := by decide +kernel
theorem d_SC_send_115 : decode prog_1_method_6_code 115 = .ok (.iconst 0, 1) := by decide +kernel
theorem d_SC_send_116 : decode prog_1_method_6_code 116 = .ok (.iadd, 1) := by decide +kernel
theorem d_SC_send_117 : decode prog_1_method_6_code 117 = .ok (.istore 8, 2) := by decide +kernel
theorem d_SC_send_119 : decode prog_1_method_6_code 119 = .ok (.aload_n 0, 1) := by decide +kernel
theorem d_SC_send_120 : decode prog_1_method_6_code 120 = .ok (.aload 6, 2) := by decide +kernel
theorem d_SC_send_122 : decode prog_1_method_6_code 122 = .ok (.lload_n 2, 1) := by decide +kernel
theorem d_SC_send_123 : decode prog_1_method_6_code 123 = .ok (.iload 4, 2) := by decide +kernel
theorem d_SC_send_125 : decode prog_1_method_6_code 125 = .ok (.iload 8, 2) := by decide +kernel
theorem d_SC_send_127 : decode prog_1_method_6_code 127 = .ok (.iload 7, 2) := by decide +kernel
theorem d_SC_send_129 : decode prog_1_method_6_code 129 = .ok (.invokevirtual 86, 3) := by decide +kernel
theorem d_SC_send_132 : decode prog_1_method_6_code 132 = .ok (.iload 7, 2) := by decide +kernel
theorem d_SC_send_134 : decode prog_1_method_6_code 134 = .ok (.ireturn, 1) := by decide +kernel
theorem d_SC_alter_0 : decode prog_1_method_7_code 0 = .ok (.aload_n 0, 1) := by decide +kernel
theorem d_SC_alter_1 : decode prog_1_method_7_code 1 = .ok (.getfield 20, 3) := by decide +kernel
theorem d_SC_alter_4 : decode prog_1_method_7_code 4 = .ok (.invokevirtual 90, 3) := by decide +kernel
theorem d_SC_alter_7 : decode prog_1_method_7_code 7 = .ok (.astore_n 3, 1) := by decide +kernel
theorem d_SC_alter_8 : decode prog_1_method_7_code 8 = .ok (.aload_n 3, 1) := by decide +kernel
theorem d_SC_alter_9 : decode prog_1_method_7_code 9 = .ok (.ifnull 23, 3) := by decide +kernel
theorem d_SC_alter_12 : decode prog_1_method_7_code 12 = .ok (.aload_n 3, 1) := by decide +kernel
theorem d_SC_alter_13 : decode prog_1_method_7_code 13 = .ok (.iload_n 1, 1) := by decide +kernel
theorem d_SC_alter_14 : decode prog_1_method_7_code 14 = .ok (.invokevirtual 94, 3) := by decide +kernel
theorem d_SC_alter_17 : decode prog_1_method_7_code 17 = .ok (.ifCond .eq 15, 3) := by decide +kernel
theorem d_SC_alter_20 : decode prog_1_method_7_code 20 = .ok (.iload_n 2, 1) := by decide +kernel
theorem d_SC_alter_21 : decode prog_1_method_7_code 21 = .ok (.iconst 1, 1) := by decide +kernel
theorem d_SC_alter_22 : decode prog_1_method_7_code 22 = .ok (.if_icmp .lt 10, 3) := by decide +kernel
theorem d_SC_alter_25 : decode prog_1_method_7_code 25 = .ok (.iload_n 2, 1) := by decide +kernel
theorem d_SC_alter_26 : decode prog_1_method_7_code 26 = .ok (.sipush 255, 3) := by decide +kernel
theorem d_SC_alter_29 : decode prog_1_method_7_code 29 = .ok (.if_icmp .le 5, 3) := by decide +kernel
theorem d_SC_alter_32 : decode prog_1_method_7_code 32 = .ok (.iconst 0, 1) := by decide +kernel
theorem d_SC_alter_33 : decode prog_1_method_7_code 33 = .ok (.ireturn, 1) := by decide +kernel
theorem d_SC_alter_34 : decode prog_1_method_7_code 34 = .ok (.aload_n 3, 1) := by decide +kernel
theorem d_SC_alter_35 : decode prog_1_method_7_code 35 = .ok (.iload_n 1, 1) := by decide +kernel
theorem d_SC_alter_36 : decode prog_1_method_7_code 36 = .ok (.iload_n 2, 1) := by decide +kernel
theorem d_SC_alter_37 : decode prog_1_method_7_code 37 = .ok (.invokevirtual 98, 3) := by decide +kernel
theorem d_SC_alter_40 : decode prog_1_method_7_code 40 = .ok (.iconst 1, 1) := by decide +kernel
theorem d_SC_alter_41 : decode prog_1_method_7_code 41 = .ok (.ireturn, 1) := by decide +kernel
theorem d_SC_receive_0 : decode prog_1_method_8_code 0 = .ok (.aload_n 0, 1) := by decide +kernel
theorem d_SC_receive_1 : decode prog_1_method_8_code 1 = .ok (.getfield 20, 3) := by decide +kernel
theorem d_SC_receive_4 : decode prog_1_method_8_code 4 = .ok (.invokevirtual 90, 3) := by decide +kernel
theorem d_SC_receive_7 : decode prog_1_method_8_code 7 = .ok (.astore_n 1, 1) := by decide +kernel
theorem d_SC_receive_8 : decode prog_1_method_8_code 8 = .ok (.aload_n 1, 1) := by decide +kernel
theorem d_SC_receive_9 : decode prog_1_method_8_code 9 = .ok (.ifnonnull 6, 3) := by decide +kernel
theorem d_SC_receive_12 : decode prog_1_method_8_code 12 = .ok (.bipush (-2), 2) := by decide +kernel
theorem d_SC_receive_14 : decode prog_1_method_8_code 14 = .ok (.ireturn, 1) := by decide +kernel
theorem d_SC_receive_15 : decode prog_1_method_8_code 15 = .ok (.aload_n 0, 1) := by decide +kernel
theorem d_SC_receive_16 : decode prog_1_method_8_code 16 = .ok (.getfield 38, 3) := by decide +kernel
theorem d_SC_receive_19 : decode prog_1_method_8_code 19 = .ok (.invokevirtual 101, 3) := by decide +kernel
theorem d_SC_receive_22 : decode prog_1_method_8_code 22 = .ok (.bipush 12, 2) := by decide +kernel
theorem d_SC_receive_24 : decode prog_1_method_8_code 24 = .ok (.if_icmp .ge 15, 3) := by decide +kernel
theorem d_SC_receive_27 : decode prog_1_method_8_code 27 = .ok (.aload_n 0, 1) := by decide +kernel
theorem d_SC_receive_28 : decode prog_1_method_8_code 28 = .ok (.getfield 34, 3) := by decide +kernel
theorem d_SC_receive_31 : decode prog_1_method_8_code 31 = .ok (.invokevirtual 101, 3) := by decide +kernel
theorem d_SC_receive_34 : decode prog_1_method_8_code 34 = .ok (.bipush 100, 2) := by decide +kernel
theorem d_SC_receive_36 : decode prog_1_method_8_code 36 = .ok (.if_icmp .lt 6, 3) := by decide +kernel
theorem d_SC_receive_39 : decode prog_1_method_8_code 39 = .ok (.bipush (-3), 2) := by decide +kernel
theorem d_SC_receive_41 : decode prog_1_method_8_code 41 = .ok (.ireturn, 1) := by decide +kernel
theorem d_SC_receive_42 : decode prog_1_method_8_code 42 = .ok (.aload_n 0, 1) := by decide +kernel
theorem d_SC_receive_43 : decode prog_1_method_8_code 43 = .ok (.getfield 20, 3) := by decide +kernel
theorem d_SC_receive_46 : decode prog_1_method_8_code 46 = .ok (.invokevirtual 104, 3) := by decide +kernel
theorem d_SC_receive_49 : decode prog_1_method_8_code 49 = .ok (.pop, 1) := by decide +kernel
theorem d_SC_receive_50 : decode prog_1_method_8_code 50 = .ok (.aload_n 1, 1) := by decide +kernel
theorem d_SC_receive_51 : decode prog_1_method_8_code 51 = .ok (.getfield 107, 3) := by decide +kernel
theorem d_SC_receive_54 : decode prog_1_method_8_code 54 = .ok (.astore_n 2, 1) := by decide +kernel
theorem d_SC_receive_55 : decode prog_1_method_8_code 55 = .ok (.aload_n 2, 1) := by decide +kernel
theorem d_SC_receive_56 : decode prog_1_method_8_code 56 = .ok (.ifnull 10, 3) := by decide +kernel
theorem d_SC_receive_59 : decode prog_1_method_8_code 59 = .ok (.aload_n 1, 1) := by decide +kernel
theorem d_SC_receive_60 : decode prog_1_method_8_code 60 = .ok (.invokestatic 111, 3) := by decide +kernel
theorem d_SC_receive_63 : decode prog_1_method_8_code 63 = .ok (.ifCond .ne 6, 3) := by decide +kernel
theorem d_SC_receive_66 : decode prog_1_method_8_code 66 = .ok (.bipush (-6), 2) := by decide +kernel
theorem d_SC_receive_68 : decode prog_1_method_8_code 68 = .ok (.ireturn, 1) := by decide +kernel
theorem d_SC_receive_69 : decode prog_1_method_8_code 69 = .ok (.new 117, 3) := by decide +kernel
theorem d_SC_receive_72 : decode prog_1_method_8_code 72 = .ok (.dup, 1) := by decide +kernel
theorem d_SC_receive_73 : decode prog_1_method_8_code 73 = .ok (.aload_n 1, 1) := by decide +kernel
theorem d_SC_receive_74 : decode prog_1_method_8_code 74 = .ok (.aload_n 2, 1) := by decide +kernel
theorem d_SC_receive_75 : decode prog_1_method_8_code 75 = .ok (.aload_n 0, 1) := by decide +kernel
theorem d_SC_receive_76 : decode prog_1_method_8_code 76 = .ok (.getfield 119, 3) := by decide +kernel
theorem d_SC_receive_79 : decode prog_1_method_8_code 79 = .ok (.invokespecial 122, 3) := by decide +kernel
theorem d_SC_receive_82 : decode prog_1_method_8_code 82 = .ok (.astore_n 3, 1) := by decide +kernel
theorem d_SC_receive_83 : decode prog_1_method_8_code 83 = .ok (.aload_n 0, 1) := by decide +kernel
theorem d_SC_receive_84 : decode prog_1_method_8_code 84 = .ok (.getfield 34, 3) := by decide +kernel
theorem d_SC_receive_87 : decode prog_1_method_8_code 87 = .ok (.aload_n 3, 1) := by decide +kernel
theorem d_SC_receive_88 : decode prog_1_method_8_code 88 = .ok (.invokevirtual 125, 3) := by decide +kernel
theorem d_SC_receive_91 : decode prog_1_method_8_code 91 = .ok (.pop, 1) := by decide +kernel
theorem d_SC_receive_92 : decode prog_1_method_8_code 92 = .ok (.aload_n 0, 1) := by decide +kernel
theorem d_SC_receive_93 : decode prog_1_method_8_code 93 = .ok (.getfield 38, 3) := by decide +kernel
theorem d_SC_receive_96 : decode prog_1_method_8_code 96 = .ok (.aload_n 3, 1) := by decide +kernel
theorem d_SC_receive_97 : decode prog_1_method_8_code 97 = .ok (.invokevirtual 125, 3) := by decide +kernel
theorem d_SC_receive_100 : decode prog_1_method_8_code 100 = .ok (.pop, 1) := by decide +kernel
theorem d_SC_receive_101 : decode prog_1_method_8_code 101 = .ok (.aload_n 0, 1) := by decide +kernel
theorem d_SC_receive_102 : decode prog_1_method_8_code 102 = .ok (.getfield 34, 3) := by decide +kernel
theorem d_SC_receive_105 : decode prog_1_method_8_code 105 = .ok (.invokevirtual 101, 3) := by decide +kernel
theorem d_SC_receive_108 : decode prog_1_method_8_code 108 = .ok (.iconst 1, 1) := by decide +kernel
theorem d_SC_receive_109 : decode prog_1_method_8_code 109 = .ok (.isub, 1) := by decide +kernel
theorem d_SC_receive_110 : decode prog_1_method_8_code 110 = .ok (.ireturn, 1) := by decide +kernel
theorem d_SC_advance_0 : decode prog_1_method_9_code 0 = .ok (.iload_n 1, 1) := by decide +kernel
theorem d_SC_advance_1 : decode prog_1_method_9_code 1 = .ok (.ifCond .lt 9, 3) := by decide +kernel
theorem d_SC_advance_4 : decode prog_1_method_9_code 4 = .ok (.iload_n 1, 1) := by decide +kernel
theorem d_SC_advance_5 : decode prog_1_method_9_code 5 = .ok (.ldc 129, 2) := by decide +kernel
theorem d_SC_advance_7 : decode prog_1_method_9_code 7 = .ok (.if_icmp .le 5, 3) := by decide +kernel
theorem d_SC_advance_10 : decode prog_1_method_9_code 10 = .ok (.iconst (-1), 1) := by decide +kernel
theorem d_SC_advance_11 : decode prog_1_method_9_code 11 = .ok (.ireturn, 1) := by decide +kernel
theorem d_SC_advance_12 : decode prog_1_method_9_code 12 = .ok (.aload_n 0, 1) := by decide +kernel
theorem d_SC_advance_13 : decode prog_1_method_9_code 13 = .ok (.getfield 119, 3) := by decide +kernel
theorem d_SC_advance_16 : decode prog_1_method_9_code 16 = .ok (.iload_n 1, 1) := by decide +kernel
theorem d_SC_advance_17 : decode prog_1_method_9_code 17 = .ok (.iadd, 1) := by decide +kernel
theorem d_SC_advance_18 : decode prog_1_method_9_code 18 = .ok (.istore_n 2, 1) := by decide +kernel
theorem d_SC_advance_19 : decode prog_1_method_9_code 19 = .ok (.iconst 0, 1) := by decide +kernel
theorem d_SC_advance_20 : decode prog_1_method_9_code 20 = .ok (.istore_n 3, 1) := by decide +kernel
theorem d_SC_advance_21 : decode prog_1_method_9_code 21 = .ok (.iconst 0, 1) := by decide +kernel
theorem d_SC_advance_22 : decode prog_1_method_9_code 22 = .ok (.istore 4, 2) := by decide +kernel
theorem d_SC_advance_24 : decode prog_1_method_9_code 24 = .ok (.iload 4, 2) := by decide +kernel
theorem d_SC_advance_26 : decode prog_1_method_9_code 26 = .ok (.ldc 130, 2) := by decide +kernel
theorem d_SC_advance_28 : decode prog_1_method_9_code 28 = .ok (.if_icmp .ge 102, 3) := by decide +kernel
theorem d_SC_advance_31 : decode prog_1_method_9_code 31 = .ok (.aload_n 0, 1) := by decide +kernel
theorem d_SC_advance_32 : decode prog_1_method_9_code 32 = .ok (.invokevirtual 131, 3) := by decide +kernel
theorem d_SC_advance_35 : decode prog_1_method_9_code 35 = .ok (.istore 5, 2) := by decide +kernel
theorem d_SC_advance_37 : decode prog_1_method_9_code 37 = .ok (.iload 5, 2) := by decide +kernel
theorem d_SC_advance_39 : decode prog_1_method_9_code 39 = .ok (.ifCond .lt 91, 3) := by decide +kernel
theorem d_SC_advance_42 : decode prog_1_method_9_code 42 = .ok (.aload_n 0, 1) := by decide +kernel
theorem d_SC_advance_43 : decode prog_1_method_9_code 43 = .ok (.getfield 38, 3) := by decide +kernel
theorem d_SC_advance_46 : decode prog_1_method_9_code 46 = .ok (.iload 5, 2) := by decide +kernel
theorem d_SC_advance_48 : decode prog_1_method_9_code 48 = .ok (.invokevirtual 134, 3) := by decide +kernel
theorem d_SC_advance_51 : decode prog_1_method_9_code 51 = .ok (.checkcast 117, 3) := by decide +kernel
theorem d_SC_advance_54 : decode prog_1_method_9_code 54 = .ok (.invokevirtual 138, 3) := by decide +kernel
theorem d_SC_advance_57 : decode prog_1_method_9_code 57 = .ok (.iload_n 2, 1) := by decide +kernel
theorem d_SC_advance_58 : decode prog_1_method_9_code 58 = .ok (.if_icmp .le 6, 3) := by decide +kernel
theorem d_SC_advance_61 : decode prog_1_method_9_code 61 = .ok (.goto 69, 3) := by decide +kernel
theorem d_SC_advance_64 : decode prog_1_method_9_code 64 = .ok (.aload_n 0, 1) := by decide +kernel
theorem d_SC_advance_65 : decode prog_1_method_9_code 65 = .ok (.getfield 38, 3) := by decide +kernel
theorem d_SC_advance_68 : decode prog_1_method_9_code 68 = .ok (.iload 5, 2) := by decide +kernel
theorem d_SC_advance_70 : decode prog_1_method_9_code 70 = .ok (.invokevirtual 134, 3) := by decide +kernel
theorem d_SC_advance_73 : decode prog_1_method_9_code 73 = .ok (.checkcast 117, 3) := by decide +kernel
theorem d_SC_advance_76 : decode prog_1_method_9_code 76 = .ok (.astore 6, 2) := by decide +kernel
theorem d_SC_advance_78 : decode prog_1_method_9_code 78 = .ok (.aload 6, 2) := by decide +kernel
theorem d_SC_advance_80 : decode prog_1_method_9_code 80 = .ok (.invokevirtual 138, 3) := by decide +kernel
theorem d_SC_advance_83 : decode prog_1_method_9_code 83 = .ok (.istore 7, 2) := by decide +kernel
theorem d_SC_advance_85 : decode prog_1_method_9_code 85 = .ok (.aload_n 0, 1) := by decide +kernel
theorem d_SC_advance_86 : decode prog_1_method_9_code 86 = .ok (.aload 6, 2) := by decide +kernel
theorem d_SC_advance_88 : decode prog_1_method_9_code 88 = .ok (.iload 7, 2) := by decide +kernel
theorem d_SC_advance_90 : decode prog_1_method_9_code 90 = .ok (.invokevirtual 141, 3) := by decide +kernel
theorem d_SC_advance_93 : decode prog_1_method_9_code 93 = .ok (.aload 6, 2) := by decide +kernel
theorem d_SC_advance_95 : decode prog_1_method_9_code 95 = .ok (.getfield 145, 3) := by decide +kernel
theorem d_SC_advance_98 : decode prog_1_method_9_code 98 = .ok (.getstatic 149, 3) := by decide +kernel
theorem d_SC_advance_101 : decode prog_1_method_9_code 101 = .ok (.if_acmp .eq 23, 3) := by decide +kernel
theorem d_SC_advance_104 : decode prog_1_method_9_code 104 = .ok (.aload_n 0, 1) := by decide +kernel
theorem d_SC_advance_105 : decode prog_1_method_9_code 105 = .ok (.getfield 38, 3) := by decide +kernel
theorem d_SC_advance_108 : decode prog_1_method_9_code 108 = .ok (.iload 5, 2) := by decide +kernel
theorem d_SC_advance_110 : decode prog_1_method_9_code 110 = .ok (.invokevirtual 154, 3) := by decide +kernel
theorem d_SC_advance_113 : decode prog_1_method_9_code 113 = .ok (.pop, 1) := by decide +kernel
theorem d_SC_advance_114 : decode prog_1_method_9_code 114 = .ok (.aload 6, 2) := by decide +kernel
theorem d_SC_advance_116 : decode prog_1_method_9_code 116 = .ok (.iload 7, 2) := by decide +kernel
theorem d_SC_advance_118 : decode prog_1_method_9_code 118 = .ok (.invokevirtual 157, 3) := by decide +kernel
theorem d_SC_advance_121 : decode prog_1_method_9_code 121 = .ok (.iinc 3 1, 3) := by decide +kernel
theorem d_SC_advance_124 : decode prog_1_method_9_code 124 = .ok (.iinc 4 1, 3) := by decide +kernel
theorem d_SC_advance_127 : decode prog_1_method_9_code 127 = .ok (.goto (-103), 3) := by decide +kernel
theorem d_SC_advance_130 : decode prog_1_method_9_code 130 = .ok (.aload_n 0, 1) := by decide +kernel
theorem d_SC_advance_131 : decode prog_1_method_9_code 131 = .ok (.iload_n 2, 1) := by decide +kernel
theorem d_SC_advance_132 : decode prog_1_method_9_code 132 = .ok (.putfield 119, 3) := by decide +kernel
theorem d_SC_advance_135 : decode prog_1_method_9_code 135 = .ok (.iload_n 3, 1) := by decide +kernel
theorem d_SC_advance_136 : decode prog_1_method_9_code 136 = .ok (.ireturn, 1) := by decide +kernel
theorem d_SC_take_0 : decode prog_1_method_10_code 0 = .ok (.aload_n 0, 1) := by decide +kernel
theorem d_SC_take_1 : decode prog_1_method_10_code 1 = .ok (.iload_n 1, 1) := by decide +kernel
theorem d_SC_take_2 : decode prog_1_method_10_code 2 = .ok (.invokevirtual 42, 3) := by decide +kernel
theorem d_SC_take_5 : decode prog_1_method_10_code 5 = .ok (.astore_n 2, 1) := by decide +kernel
theorem d_SC_take_6 : decode prog_1_method_10_code 6 = .ok (.aload_n 2, 1) := by decide +kernel
theorem d_SC_take_7 : decode prog_1_method_10_code 7 = .ok (.ifnonnull 5, 3) := by decide +kernel
theorem d_SC_take_10 : decode prog_1_method_10_code 10 = .ok (.iconst (-1), 1) := by decide +kernel
theorem d_SC_take_11 : decode prog_1_method_10_code 11 = .ok (.ireturn, 1) := by decide +kernel
theorem d_SC_take_12 : decode prog_1_method_10_code 12 = .ok (.aload_n 2, 1) := by decide +kernel
theorem d_SC_take_13 : decode prog_1_method_10_code 13 = .ok (.getfield 160, 3) := by decide +kernel
theorem d_SC_take_16 : decode prog_1_method_10_code 16 = .ok (.invokevirtual 104, 3) := by decide +kernel
theorem d_SC_take_19 : decode prog_1_method_10_code 19 = .ok (.astore_n 3, 1) := by decide +kernel
theorem d_SC_take_20 : decode prog_1_method_10_code 20 = .ok (.aload_n 3, 1) := by decide +kernel
theorem d_SC_take_21 : decode prog_1_method_10_code 21 = .ok (.ifnonnull 8, 3) := by decide +kernel
theorem d_SC_take_24 : decode prog_1_method_10_code 24 = .ok (.bipush (-100), 2) := by decide +kernel
theorem d_SC_take_26 : decode prog_1_method_10_code 26 = .ok (.goto 8, 3) := by decide +kernel
theorem d_SC_take_29 : decode prog_1_method_10_code 29 = .ok (.aload_n 2, 1) := by decide +kernel
theorem d_SC_take_30 : decode prog_1_method_10_code 30 = .ok (.aload_n 3, 1) := by decide +kernel
theorem d_SC_take_31 : decode prog_1_method_10_code 31 = .ok (.invokevirtual 163, 3) := by decide +kernel
theorem d_SC_take_34 : decode prog_1_method_10_code 34 = .ok (.ireturn, 1) := by decide +kernel
theorem d_SC_copy_0 : decode prog_1_method_11_code 0 = .ok (.aload_n 0, 1) := by decide +kernel
theorem d_SC_copy_1 : decode prog_1_method_11_code 1 = .ok (.iload_n 1, 1) := by decide +kernel
theorem d_SC_copy_2 : decode prog_1_method_11_code 2 = .ok (.invokevirtual 42, 3) := by decide +kernel
theorem d_SC_copy_5 : decode prog_1_method_11_code 5 = .ok (.astore_n 2, 1) := by decide +kernel
theorem d_SC_copy_6 : decode prog_1_method_11_code 6 = .ok (.aload_n 2, 1) := by decide +kernel
theorem d_SC_copy_7 : decode prog_1_method_11_code 7 = .ok (.ifnonnull 5, 3) := by decide +kernel
theorem d_SC_copy_10 : decode prog_1_method_11_code 10 = .ok (.iconst 0, 1) := by decide +kernel
theorem d_SC_copy_11 : decode prog_1_method_11_code 11 = .ok (.ireturn, 1) := by decide +kernel
theorem d_SC_copy_12 : decode prog_1_method_11_code 12 = .ok (.aload_n 2, 1) := by decide +kernel
theorem d_SC_copy_13 : decode prog_1_method_11_code 13 = .ok (.getfield 160, 3) := by decide +kernel
theorem d_SC_copy_16 : decode prog_1_method_11_code 16 = .ok (.invokevirtual 90, 3) := by decide +kernel
theorem d_SC_copy_19 : decode prog_1_method_11_code 19 = .ok (.astore_n 3, 1) := by decide +kernel
theorem d_SC_copy_20 : decode prog_1_method_11_code 20 = .ok (.aload_n 3, 1) := by decide +kernel
theorem d_SC_copy_21 : decode prog_1_method_11_code 21 = .ok (.ifnull 13, 3) := by decide +kernel
theorem d_SC_copy_24 : decode prog_1_method_11_code 24 = .ok (.aload_n 2, 1) := by decide +kernel
theorem d_SC_copy_25 : decode prog_1_method_11_code 25 = .ok (.getfield 160, 3) := by decide +kernel
theorem d_SC_copy_28 : decode prog_1_method_11_code 28 = .ok (.invokevirtual 83, 3) := by decide +kernel
theorem d_SC_copy_31 : decode prog_1_method_11_code 31 = .ok (.ifCond .ne 5, 3) := by decide +kernel
theorem d_SC_copy_34 : decode prog_1_method_11_code 34 = .ok (.iconst 0, 1) := by decide +kernel
theorem d_SC_copy_35 : decode prog_1_method_11_code 35 = .ok (.ireturn, 1) := by decide +kernel
theorem d_SC_copy_36 : decode prog_1_method_11_code 36 = .ok (.aload_n 2, 1) := by decide +kernel
theorem d_SC_copy_37 : decode prog_1_method_11_code 37 = .ok (.getfield 160, 3) := by decide +kernel
theorem d_SC_copy_40 : decode prog_1_method_11_code 40 = .ok (.aload_n 3, 1) := by decide +kernel
theorem d_SC_copy_41 : decode prog_1_method_11_code 41 = .ok (.invokevirtual 167, 3) := by decide +kernel
theorem d_SC_copy_44 : decode prog_1_method_11_code 44 = .ok (.iconst 1, 1) := by decide +kernel
theorem d_SC_copy_45 : decode prog_1_method_11_code 45 = .ok (.ireturn, 1) := by decide +kernel
theorem d_SC_swap_0 : decode prog_1_method_12_code 0 = .ok (.aload_n 0, 1) := by decide +kernel
theorem d_SC_swap_1 : decode prog_1_method_12_code 1 = .ok (.iload_n 1, 1) := by decide +kernel
theorem d_SC_swap_2 : decode prog_1_method_12_code 2 = .ok (.invokevirtual 42, 3) := by decide +kernel
theorem d_SC_swap_5 : decode prog_1_method_12_code 5 = .ok (.astore_n 2, 1) := by decide +kernel
theorem d_SC_swap_6 : decode prog_1_method_12_code 6 = .ok (.aload_n 2, 1) := by decide +kernel
theorem d_SC_swap_7 : decode prog_1_method_12_code 7 = .ok (.ifnull 17, 3) := by decide +kernel
theorem d_SC_swap_10 : decode prog_1_method_12_code 10 = .ok (.aload_n 2, 1) := by decide +kernel
theorem d_SC_swap_11 : decode prog_1_method_12_code 11 = .ok (.getfield 160, 3) := by decide +kernel
theorem d_SC_swap_14 : decode prog_1_method_12_code 14 = .ok (.invokevirtual 170, 3) := by decide +kernel
theorem d_SC_swap_17 : decode prog_1_method_12_code 17 = .ok (.ifCond .eq 7, 3) := by decide +kernel
theorem d_SC_swap_20 : decode prog_1_method_12_code 20 = .ok (.iconst 1, 1) := by decide +kernel
theorem d_SC_swap_21 : decode prog_1_method_12_code 21 = .ok (.goto 4, 3) := by decide +kernel
theorem d_SC_swap_24 : decode prog_1_method_12_code 24 = .ok (.iconst 0, 1) := by decide +kernel
theorem d_SC_swap_25 : decode prog_1_method_12_code 25 = .ok (.ireturn, 1) := by decide +kernel
theorem d_SC_report_0 : decode prog_1_method_13_code 0 = .ok (.aload_n 0, 1) := by decide +kernel
theorem d_SC_report_1 : decode prog_1_method_13_code 1 = .ok (.iload_n 1, 1) := by decide +kernel
theorem d_SC_report_2 : decode prog_1_method_13_code 2 = .ok (.invokevirtual 42, 3) := by decide +kernel
theorem d_SC_report_5 : decode prog_1_method_13_code 5 = .ok (.astore_n 2, 1) := by decide +kernel
theorem d_SC_report_6 : decode prog_1_method_13_code 6 = .ok (.aload_n 2, 1) := by decide +kernel
theorem d_SC_report_7 : decode prog_1_method_13_code 7 = .ok (.ifnonnull 5, 3) := by decide +kernel
theorem d_SC_report_10 : decode prog_1_method_13_code 10 = .ok (.iconst (-1), 1) := by decide +kernel
theorem d_SC_report_11 : decode prog_1_method_13_code 11 = .ok (.ireturn, 1) := by decide +kernel
theorem d_SC_report_12 : decode prog_1_method_13_code 12 = .ok (.aload_n 2, 1) := by decide +kernel
theorem d_SC_report_13 : decode prog_1_method_13_code 13 = .ok (.getfield 173, 3) := by decide +kernel
theorem d_SC_report_16 : decode prog_1_method_13_code 16 = .ok (.invokevirtual 104, 3) := by decide +kernel
theorem d_SC_report_19 : decode prog_1_method_13_code 19 = .ok (.astore_n 3, 1) := by decide +kernel
theorem d_SC_report_20 : decode prog_1_method_13_code 20 = .ok (.aload_n 3, 1) := by decide +kernel
theorem d_SC_report_21 : decode prog_1_method_13_code 21 = .ok (.ifnonnull 8, 3) := by decide +kernel
theorem d_SC_report_24 : decode prog_1_method_13_code 24 = .ok (.bipush (-2), 2) := by decide +kernel
theorem d_SC_report_26 : decode prog_1_method_13_code 26 = .ok (.goto 23, 3) := by decide +kernel
theorem d_SC_report_29 : decode prog_1_method_13_code 29 = .ok (.sipush 256, 3) := by decide +kernel
theorem d_SC_report_32 : decode prog_1_method_13_code 32 = .ok (.aload_n 3, 1) := by decide +kernel
theorem d_SC_report_33 : decode prog_1_method_13_code 33 = .ok (.aload_n 3, 1) := by decide +kernel
theorem d_SC_report_34 : decode prog_1_method_13_code 34 = .ok (.invokevirtual 176, 3) := by decide +kernel
theorem d_SC_report_37 : decode prog_1_method_13_code 37 = .ok (.iconst 1, 1) := by decide +kernel
theorem d_SC_report_38 : decode prog_1_method_13_code 38 = .ok (.isub, 1) := by decide +kernel
theorem d_SC_report_39 : decode prog_1_method_13_code 39 = .ok (.invokevirtual 177, 3) := by decide +kernel
theorem d_SC_report_42 : decode prog_1_method_13_code 42 = .ok (.imul, 1) := by decide +kernel
theorem d_SC_report_43 : decode prog_1_method_13_code 43 = .ok (.aload_n 3, 1) := by decide +kernel
theorem d_SC_report_44 : decode prog_1_method_13_code 44 = .ok (.iconst 1, 1) := by decide +kernel
theorem d_SC_report_45 : decode prog_1_method_13_code 45 = .ok (.invokevirtual 177, 3) := by decide +kernel
theorem d_SC_report_48 : decode prog_1_method_13_code 48 = .ok (.iadd, 1) := by decide +kernel
theorem d_SC_report_49 : decode prog_1_method_13_code 49 = .ok (.ireturn, 1) := by decide +kernel
theorem d_SC_waiting_0 : decode prog_1_method_14_code 0 = .ok (.aload_n 0, 1) := by decide +kernel
theorem d_SC_waiting_1 : decode prog_1_method_14_code 1 = .ok (.iload_n 1, 1) := by decide +kernel
theorem d_SC_waiting_2 : decode prog_1_method_14_code 2 = .ok (.invokevirtual 181, 3) := by decide +kernel
theorem d_SC_waiting_5 : decode prog_1_method_14_code 5 = .ok (.astore_n 2, 1) := by decide +kernel
theorem d_SC_waiting_6 : decode prog_1_method_14_code 6 = .ok (.aload_n 2, 1) := by decide +kernel
theorem d_SC_waiting_7 : decode prog_1_method_14_code 7 = .ok (.ifnonnull 7, 3) := by decide +kernel
theorem d_SC_waiting_10 : decode prog_1_method_14_code 10 = .ok (.iconst (-1), 1) := by decide +kernel
theorem d_SC_waiting_11 : decode prog_1_method_14_code 11 = .ok (.goto 7, 3) := by decide +kernel
theorem d_SC_waiting_14 : decode prog_1_method_14_code 14 = .ok (.aload_n 2, 1) := by decide +kernel
theorem d_SC_waiting_15 : decode prog_1_method_14_code 15 = .ok (.invokevirtual 185, 3) := by decide +kernel
theorem d_SC_waiting_18 : decode prog_1_method_14_code 18 = .ok (.ireturn, 1) := by decide +kernel
theorem d_SC_byteAt_0 : decode prog_1_method_15_code 0 = .ok (.aload_n 0, 1) := by decide +kernel
theorem d_SC_byteAt_1 : decode prog_1_method_15_code 1 = .ok (.iload_n 1, 1) := by decide +kernel
theorem d_SC_byteAt_2 : decode prog_1_method_15_code 2 = .ok (.invokevirtual 181, 3) := by decide +kernel
theorem d_SC_byteAt_5 : decode prog_1_method_15_code 5 = .ok (.astore_n 3, 1) := by decide +kernel
theorem d_SC_byteAt_6 : decode prog_1_method_15_code 6 = .ok (.aload_n 3, 1) := by decide +kernel
theorem d_SC_byteAt_7 : decode prog_1_method_15_code 7 = .ok (.ifnonnull 6, 3) := by decide +kernel
theorem d_SC_byteAt_10 : decode prog_1_method_15_code 10 = .ok (.bipush (-2), 2) := by decide +kernel
theorem d_SC_byteAt_12 : decode prog_1_method_15_code 12 = .ok (.ireturn, 1) := by decide +kernel
theorem d_SC_byteAt_13 : decode prog_1_method_15_code 13 = .ok (.aload_n 3, 1) := by decide +kernel
theorem d_SC_byteAt_14 : decode prog_1_method_15_code 14 = .ok (.invokevirtual 90, 3) := by decide +kernel
theorem d_SC_byteAt_17 : decode prog_1_method_15_code 17 = .ok (.astore 4, 2) := by decide +kernel
theorem d_SC_byteAt_19 : decode prog_1_method_15_code 19 = .ok (.aload 4, 2) := by decide +kernel
theorem d_SC_byteAt_21 : decode prog_1_method_15_code 21 = .ok (.ifnull 12, 3) := by decide +kernel
theorem d_SC_byteAt_24 : decode prog_1_method_15_code 24 = .ok (.aload 4, 2) := by decide +kernel
theorem d_SC_byteAt_26 : decode prog_1_method_15_code 26 = .ok (.iload_n 2, 1) := by decide +kernel
theorem d_SC_byteAt_27 : decode prog_1_method_15_code 27 = .ok (.invokevirtual 94, 3) := by decide +kernel
theorem d_SC_byteAt_30 : decode prog_1_method_15_code 30 = .ok (.ifCond .ne 8, 3) := by decide +kernel
theorem d_SC_byteAt_33 : decode prog_1_method_15_code 33 = .ok (.bipush (-2), 2) := by decide +kernel
theorem d_SC_byteAt_35 : decode prog_1_method_15_code 35 = .ok (.goto 9, 3) := by decide +kernel
theorem d_SC_byteAt_38 : decode prog_1_method_15_code 38 = .ok (.aload 4, 2) := by decide +kernel
theorem d_SC_byteAt_40 : decode prog_1_method_15_code 40 = .ok (.iload_n 2, 1) := by decide +kernel
theorem d_SC_byteAt_41 : decode prog_1_method_15_code 41 = .ok (.invokevirtual 177, 3) := by decide +kernel
theorem d_SC_byteAt_44 : decode prog_1_method_15_code 44 = .ok (.ireturn, 1) := by decide +kernel
theorem d_SC_text_0 : decode prog_1_method_16_code 0 = .ok (.aload_n 0, 1) := by decide +kernel
theorem d_SC_text_1 : decode prog_1_method_16_code 1 = .ok (.iload_n 1, 1) := by decide +kernel
theorem d_SC_text_2 : decode prog_1_method_16_code 2 = .ok (.invokevirtual 42, 3) := by decide +kernel
theorem d_SC_text_5 : decode prog_1_method_16_code 5 = .ok (.astore_n 3, 1) := by decide +kernel
theorem d_SC_text_6 : decode prog_1_method_16_code 6 = .ok (.aload_n 3, 1) := by decide +kernel
theorem d_SC_text_7 : decode prog_1_method_16_code 7 = .ok (.ifnull 15, 3) := by decide +kernel
theorem d_SC_text_10 : decode prog_1_method_16_code 10 = .ok (.iload_n 2, 1) := by decide +kernel
theorem d_SC_text_11 : decode prog_1_method_16_code 11 = .ok (.ifCond .lt 11, 3) := by decide +kernel
theorem d_SC_text_14 : decode prog_1_method_16_code 14 = .ok (.iload_n 2, 1) := by decide +kernel
theorem d_SC_text_15 : decode prog_1_method_16_code 15 = .ok (.aload_n 3, 1) := by decide +kernel
theorem d_SC_text_16 : decode prog_1_method_16_code 16 = .ok (.getfield 186, 3) := by decide +kernel
theorem d_SC_text_19 : decode prog_1_method_16_code 19 = .ok (.if_icmp .lt 8, 3) := by decide +kernel
theorem d_SC_text_22 : decode prog_1_method_16_code 22 = .ok (.bipush (-2), 2) := by decide +kernel
theorem d_SC_text_24 : decode prog_1_method_16_code 24 = .ok (.goto 9, 3) := by decide +kernel
theorem d_SC_text_27 : decode prog_1_method_16_code 27 = .ok (.aload_n 3, 1) := by decide +kernel
theorem d_SC_text_28 : decode prog_1_method_16_code 28 = .ok (.getfield 189, 3) := by decide +kernel
theorem d_SC_text_31 : decode prog_1_method_16_code 31 = .ok (.iload_n 2, 1) := by decide +kernel
theorem d_SC_text_32 : decode prog_1_method_16_code 32 = .ok (.iaload, 1) := by decide +kernel
theorem d_SC_text_33 : decode prog_1_method_16_code 33 = .ok (.ireturn, 1) := by decide +kernel
theorem d_SC_sender_0 : decode prog_1_method_17_code 0 = .ok (.aload_n 0, 1) := by decide +kernel
theorem d_SC_sender_1 : decode prog_1_method_17_code 1 = .ok (.iload_n 1, 1) := by decide +kernel
theorem d_SC_sender_2 : decode prog_1_method_17_code 2 = .ok (.invokevirtual 42, 3) := by decide +kernel
theorem d_SC_sender_5 : decode prog_1_method_17_code 5 = .ok (.astore_n 2, 1) := by decide +kernel
theorem d_SC_sender_6 : decode prog_1_method_17_code 6 = .ok (.aload_n 2, 1) := by decide +kernel
theorem d_SC_sender_7 : decode prog_1_method_17_code 7 = .ok (.ifnonnull 7, 3) := by decide +kernel
theorem d_SC_sender_10 : decode prog_1_method_17_code 10 = .ok (.lconst 0, 1) := by decide +kernel
theorem d_SC_sender_11 : decode prog_1_method_17_code 11 = .ok (.goto 7, 3) := by decide +kernel
theorem d_SC_sender_14 : decode prog_1_method_17_code 14 = .ok (.aload_n 2, 1) := by decide +kernel
theorem d_SC_sender_15 : decode prog_1_method_17_code 15 = .ok (.getfield 193, 3) := by decide +kernel
theorem d_SC_sender_18 : decode prog_1_method_17_code 18 = .ok (.lreturn, 1) := by decide +kernel
theorem d_SC_state_0 : decode prog_1_method_18_code 0 = .ok (.iload_n 1, 1) := by decide +kernel
theorem d_SC_state_1 : decode prog_1_method_18_code 1 = .ok (.ifCond .lt 14, 3) := by decide +kernel
theorem d_SC_state_4 : decode prog_1_method_18_code 4 = .ok (.iload_n 1, 1) := by decide +kernel
theorem d_SC_state_5 : decode prog_1_method_18_code 5 = .ok (.aload_n 0, 1) := by decide +kernel
theorem d_SC_state_6 : decode prog_1_method_18_code 6 = .ok (.getfield 34, 3) := by decide +kernel
theorem d_SC_state_9 : decode prog_1_method_18_code 9 = .ok (.invokevirtual 101, 3) := by decide +kernel
theorem d_SC_state_12 : decode prog_1_method_18_code 12 = .ok (.if_icmp .lt 8, 3) := by decide +kernel
theorem d_SC_state_15 : decode prog_1_method_18_code 15 = .ok (.bipush (-2), 2) := by decide +kernel
theorem d_SC_state_17 : decode prog_1_method_18_code 17 = .ok (.goto 20, 3) := by decide +kernel
theorem d_SC_state_20 : decode prog_1_method_18_code 20 = .ok (.aload_n 0, 1) := by decide +kernel
theorem d_SC_state_21 : decode prog_1_method_18_code 21 = .ok (.getfield 34, 3) := by decide +kernel
theorem d_SC_state_24 : decode prog_1_method_18_code 24 = .ok (.iload_n 1, 1) := by decide +kernel
theorem d_SC_state_25 : decode prog_1_method_18_code 25 = .ok (.invokevirtual 134, 3) := by decide +kernel
theorem d_SC_state_28 : decode prog_1_method_18_code 28 = .ok (.checkcast 117, 3) := by decide +kernel
theorem d_SC_state_31 : decode prog_1_method_18_code 31 = .ok (.getfield 145, 3) := by decide +kernel
theorem d_SC_state_34 : decode prog_1_method_18_code 34 = .ok (.getfield 196, 3) := by decide +kernel
theorem d_SC_state_37 : decode prog_1_method_18_code 37 = .ok (.ireturn, 1) := by decide +kernel
theorem d_SC_offers_0 : decode prog_1_method_19_code 0 = .ok (.iload_n 1, 1) := by decide +kernel
theorem d_SC_offers_1 : decode prog_1_method_19_code 1 = .ok (.ifCond .lt 14, 3) := by decide +kernel
theorem d_SC_offers_4 : decode prog_1_method_19_code 4 = .ok (.iload_n 1, 1) := by decide +kernel
theorem d_SC_offers_5 : decode prog_1_method_19_code 5 = .ok (.aload_n 0, 1) := by decide +kernel
theorem d_SC_offers_6 : decode prog_1_method_19_code 6 = .ok (.getfield 34, 3) := by decide +kernel
theorem d_SC_offers_9 : decode prog_1_method_19_code 9 = .ok (.invokevirtual 101, 3) := by decide +kernel
theorem d_SC_offers_12 : decode prog_1_method_19_code 12 = .ok (.if_icmp .lt 8, 3) := by decide +kernel
theorem d_SC_offers_15 : decode prog_1_method_19_code 15 = .ok (.bipush (-2), 2) := by decide +kernel
theorem d_SC_offers_17 : decode prog_1_method_19_code 17 = .ok (.goto 17, 3) := by decide +kernel
theorem d_SC_offers_20 : decode prog_1_method_19_code 20 = .ok (.aload_n 0, 1) := by decide +kernel
theorem d_SC_offers_21 : decode prog_1_method_19_code 21 = .ok (.getfield 34, 3) := by decide +kernel
theorem d_SC_offers_24 : decode prog_1_method_19_code 24 = .ok (.iload_n 1, 1) := by decide +kernel
theorem d_SC_offers_25 : decode prog_1_method_19_code 25 = .ok (.invokevirtual 134, 3) := by decide +kernel
theorem d_SC_offers_28 : decode prog_1_method_19_code 28 = .ok (.checkcast 117, 3) := by decide +kernel
theorem d_SC_offers_31 : decode prog_1_method_19_code 31 = .ok (.getfield 199, 3) := by decide +kernel
theorem d_SC_offers_34 : decode prog_1_method_19_code 34 = .ok (.ireturn, 1) := by decide +kernel
theorem d_SC_time_0 : decode prog_1_method_20_code 0 = .ok (.aload_n 0, 1) := by decide +kernel
theorem d_SC_time_1 : decode prog_1_method_20_code 1 = .ok (.getfield 119, 3) := by decide +kernel
theorem d_SC_time_4 : decode prog_1_method_20_code 4 = .ok (.ireturn, 1) := by decide +kernel
theorem d_SC_isNumber_0 : decode prog_1_method_21_code 0 = .ok (.lload_n 0, 1) := by decide +kernel
theorem d_SC_isNumber_1 : decode prog_1_method_21_code 1 = .ok (.lconst 1, 1) := by decide +kernel
theorem d_SC_isNumber_2 : decode prog_1_method_21_code 2 = .ok (.lcmp, 1) := by decide +kernel
theorem d_SC_isNumber_3 : decode prog_1_method_21_code 3 = .ok (.ifCond .lt 15, 3) := by decide +kernel
theorem d_SC_isNumber_6 : decode prog_1_method_21_code 6 = .ok (.lload_n 0, 1) := by decide +kernel
theorem d_SC_isNumber_7 : decode prog_1_method_21_code 7 = .ok (.ldc2_w 202, 3) := by decide +kernel
theorem d_SC_isNumber_10 : decode prog_1_method_21_code 10 = .ok (.lcmp, 1) := by decide +kernel
theorem d_SC_isNumber_11 : decode prog_1_method_21_code 11 = .ok (.ifCond .gt 7, 3) := by decide +kernel
theorem d_SC_isNumber_14 : decode prog_1_method_21_code 14 = .ok (.iconst 1, 1) := by decide +kernel
theorem d_SC_isNumber_15 : decode prog_1_method_21_code 15 = .ok (.goto 4, 3) := by decide +kernel
theorem d_SC_isNumber_18 : decode prog_1_method_21_code 18 = .ok (.iconst 0, 1) := by decide +kernel
theorem d_SC_isNumber_19 : decode prog_1_method_21_code 19 = .ok (.ireturn, 1) := by decide +kernel
theorem d_SC_deviceOf_0 : decode prog_1_method_22_code 0 = .ok (.iload_n 1, 1) := by decide +kernel
theorem d_SC_deviceOf_1 : decode prog_1_method_22_code 1 = .ok (.ifCond .lt 8, 3) := by decide +kernel
theorem d_SC_deviceOf_4 : decode prog_1_method_22_code 4 = .ok (.iload_n 1, 1) := by decide +kernel
theorem d_SC_deviceOf_5 : decode prog_1_method_22_code 5 = .ok (.iconst 4, 1) := by decide +kernel
theorem d_SC_deviceOf_6 : decode prog_1_method_22_code 6 = .ok (.if_icmp .lt 7, 3) := by decide +kernel
theorem d_SC_deviceOf_9 : decode prog_1_method_22_code 9 = .ok (.aconst_null, 1) := by decide +kernel
theorem d_SC_deviceOf_10 : decode prog_1_method_22_code 10 = .ok (.goto 9, 3) := by decide +kernel
theorem d_SC_deviceOf_13 : decode prog_1_method_22_code 13 = .ok (.aload_n 0, 1) := by decide +kernel
theorem d_SC_deviceOf_14 : decode prog_1_method_22_code 14 = .ok (.getfield 11, 3) := by decide +kernel
theorem d_SC_deviceOf_17 : decode prog_1_method_22_code 17 = .ok (.iload_n 1, 1) := by decide +kernel
theorem d_SC_deviceOf_18 : decode prog_1_method_22_code 18 = .ok (.aaload, 1) := by decide +kernel
theorem d_SC_deviceOf_19 : decode prog_1_method_22_code 19 = .ok (.areturn, 1) := by decide +kernel
theorem d_SC_lineOf_0 : decode prog_1_method_23_code 0 = .ok (.iload_n 1, 1) := by decide +kernel
theorem d_SC_lineOf_1 : decode prog_1_method_23_code 1 = .ok (.iconst (-1), 1) := by decide +kernel
theorem d_SC_lineOf_2 : decode prog_1_method_23_code 2 = .ok (.if_icmp .ne 8, 3) := by decide +kernel
theorem d_SC_lineOf_5 : decode prog_1_method_23_code 5 = .ok (.aload_n 0, 1) := by decide +kernel
theorem d_SC_lineOf_6 : decode prog_1_method_23_code 6 = .ok (.getfield 20, 3) := by decide +kernel
theorem d_SC_lineOf_9 : decode prog_1_method_23_code 9 = .ok (.areturn, 1) := by decide +kernel
theorem d_SC_lineOf_10 : decode prog_1_method_23_code 10 = .ok (.iload_n 1, 1) := by decide +kernel
theorem d_SC_lineOf_11 : decode prog_1_method_23_code 11 = .ok (.iconst 4, 1) := by decide +kernel
theorem d_SC_lineOf_12 : decode prog_1_method_23_code 12 = .ok (.if_icmp .lt 24, 3) := by decide +kernel
theorem d_SC_lineOf_15 : decode prog_1_method_23_code 15 = .ok (.aload_n 0, 1) := by decide +kernel
theorem d_SC_lineOf_16 : decode prog_1_method_23_code 16 = .ok (.iload_n 1, 1) := by decide +kernel
theorem d_SC_lineOf_17 : decode prog_1_method_23_code 17 = .ok (.iconst 4, 1) := by decide +kernel
theorem d_SC_lineOf_18 : decode prog_1_method_23_code 18 = .ok (.isub, 1) := by decide +kernel
theorem d_SC_lineOf_19 : decode prog_1_method_23_code 19 = .ok (.invokevirtual 42, 3) := by decide +kernel
theorem d_SC_lineOf_22 : decode prog_1_method_23_code 22 = .ok (.astore_n 2, 1) := by decide +kernel
theorem d_SC_lineOf_23 : decode prog_1_method_23_code 23 = .ok (.aload_n 2, 1) := by decide +kernel
theorem d_SC_lineOf_24 : decode prog_1_method_23_code 24 = .ok (.ifnonnull 7, 3) := by decide +kernel
theorem d_SC_lineOf_27 : decode prog_1_method_23_code 27 = .ok (.aconst_null, 1) := by decide +kernel
theorem d_SC_lineOf_28 : decode prog_1_method_23_code 28 = .ok (.goto 7, 3) := by decide +kernel
theorem d_SC_lineOf_31 : decode prog_1_method_23_code 31 = .ok (.aload_n 2, 1) := by decide +kernel
theorem d_SC_lineOf_32 : decode prog_1_method_23_code 32 = .ok (.getfield 173, 3) := by decide +kernel
theorem d_SC_lineOf_35 : decode prog_1_method_23_code 35 = .ok (.areturn, 1) := by decide +kernel
theorem d_SC_lineOf_36 : decode prog_1_method_23_code 36 = .ok (.aload_n 0, 1) := by decide +kernel
theorem d_SC_lineOf_37 : decode prog_1_method_23_code 37 = .ok (.iload_n 1, 1) := by decide +kernel
theorem d_SC_lineOf_38 : decode prog_1_method_23_code 38 = .ok (.invokevirtual 42, 3) := by decide +kernel
theorem d_SC_lineOf_41 : decode prog_1_method_23_code 41 = .ok (.astore_n 2, 1) := by decide +kernel
theorem d_SC_lineOf_42 : decode prog_1_method_23_code 42 = .ok (.aload_n 2, 1) := by decide +kernel
theorem d_SC_lineOf_43 : decode prog_1_method_23_code 43 = .ok (.ifnonnull 7, 3) := by decide +kernel
theorem d_SC_lineOf_46 : decode prog_1_method_23_code 46 = .ok (.aconst_null, 1) := by decide +kernel
theorem d_SC_lineOf_47 : decode prog_1_method_23_code 47 = .ok (.goto 7, 3) := by decide +kernel
theorem d_SC_lineOf_50 : decode prog_1_method_23_code 50 = .ok (.aload_n 2, 1) := by decide +kernel
theorem d_SC_lineOf_51 : decode prog_1_method_23_code 51 = .ok (.getfield 160, 3) := by decide +kernel
theorem d_SC_lineOf_54 : decode prog_1_method_23_code 54 = .ok (.areturn, 1) := by decide +kernel
theorem d_SC_sendUp_0 : decode prog_1_method_24_code 0 = .ok (.iconst 0, 1) := by decide +kernel
theorem d_SC_sendUp_1 : decode prog_1_method_24_code 1 = .ok (.istore 7, 2) := by decide +kernel
theorem d_SC_sendUp_3 : decode prog_1_method_24_code 3 = .ok (.iconst 1, 1) := by decide +kernel
theorem d_SC_sendUp_4 : decode prog_1_method_24_code 4 = .ok (.istore 8, 2) := by decide +kernel
theorem d_SC_sendUp_6 : decode prog_1_method_24_code 6 = .ok (.iload 8, 2) := by decide +kernel
theorem d_SC_sendUp_8 : decode prog_1_method_24_code 8 = .ok (.iload 6, 2) := by decide +kernel
theorem d_SC_sendUp_10 : decode prog_1_method_24_code 10 = .ok (.if_icmp .gt 144, 3) := by decide +kernel
theorem d_SC_sendUp_13 : decode prog_1_method_24_code 13 = .ok (.iload 6, 2) := by decide +kernel
theorem d_SC_sendUp_15 : decode prog_1_method_24_code 15 = .ok (.iconst 1, 1) := by decide +kernel
theorem d_SC_sendUp_16 : decode prog_1_method_24_code 16 = .ok (.if_icmp .ne 13, 3) := by decide +kernel
theorem d_SC_sendUp_19 : decode prog_1_method_24_code 19 = .ok (.aload_n 0, 1) := by decide +kernel
theorem d_SC_sendUp_20 : decode prog_1_method_24_code 20 = .ok (.getfield 27, 3) := by decide +kernel
theorem d_SC_sendUp_23 : decode prog_1_method_24_code 23 = .ok (.getfield 72, 3) := by decide +kernel
theorem d_SC_sendUp_26 : decode prog_1_method_24_code 26 = .ok (.goto 12, 3) := by decide +kernel
theorem d_SC_sendUp_29 : decode prog_1_method_24_code 29 = .ok (.aload_n 0, 1) := by decide +kernel
theorem d_SC_sendUp_30 : decode prog_1_method_24_code 30 = .ok (.getfield 27, 3) := by decide +kernel
theorem d_SC_sendUp_33 : decode prog_1_method_24_code 33 = .ok (.iload 7, 2) := by decide +kernel
theorem d_SC_sendUp_35 : decode prog_1_method_24_code 35 = .ok (.invokevirtual 204, 3) := by decide +kernel
theorem d_SC_sendUp_38 : decode prog_1_method_24_code 38 = .ok (.istore 9, 2) := by decide +kernel
theorem d_SC_sendUp_40 : decode prog_1_method_24_code 40 = .ok (.aload_n 0, 1) := by decide +kernel
theorem d_SC_sendUp_41 : decode prog_1_method_24_code 41 = .ok (.getfield 27, 3) := by decide +kernel
theorem d_SC_sendUp_44 : decode prog_1_method_24_code 44 = .ok (.iload 7, 2) := by decide +kernel
theorem d_SC_sendUp_46 : decode prog_1_method_24_code 46 = .ok (.iload 9, 2) := by decide +kernel
theorem d_SC_sendUp_48 : decode prog_1_method_24_code 48 = .ok (.invokevirtual 207, 3) := by decide +kernel
theorem d_SC_sendUp_51 : decode prog_1_method_24_code 51 = .ok (.iload 6, 2) := by decide +kernel
theorem d_SC_sendUp_53 : decode prog_1_method_24_code 53 = .ok (.iconst 1, 1) := by decide +kernel
theorem d_SC_sendUp_54 : decode prog_1_method_24_code 54 = .ok (.if_icmp .ne 7, 3) := by decide +kernel
theorem d_SC_sendUp_57 : decode prog_1_method_24_code 57 = .ok (.iconst 0, 1) := by decide +kernel
theorem d_SC_sendUp_58 : decode prog_1_method_24_code 58 = .ok (.goto 5, 3) := by decide +kernel
theorem d_SC_sendUp_61 : decode prog_1_method_24_code 61 = .ok (.bipush 7, 2) := by decide +kernel
theorem d_SC_sendUp_63 : decode prog_1_method_24_code 63 = .ok (.iadd, 1) := by decide +kernel
theorem d_SC_sendUp_64 : decode prog_1_method_24_code 64 = .ok (.istore 10, 2) := by decide +kernel
theorem d_SC_sendUp_66 : decode prog_1_method_24_code 66 = .ok (.new 84, 3) := by decide +kernel
theorem d_SC_sendUp_69 : decode prog_1_method_24_code 69 = .ok (.dup, 1) := by decide +kernel
theorem d_SC_sendUp_70 : decode prog_1_method_24_code 70 = .ok (.lload_n 2, 1) := by decide +kernel
theorem d_SC_sendUp_71 : decode prog_1_method_24_code 71 = .ok (.iload 10, 2) := by decide +kernel
theorem d_SC_sendUp_73 : decode prog_1_method_24_code 73 = .ok (.invokestatic 211, 3) := by decide +kernel
theorem d_SC_sendUp_76 : decode prog_1_method_24_code 76 = .ok (.aload_n 1, 1) := by decide +kernel
theorem d_SC_sendUp_77 : decode prog_1_method_24_code 77 = .ok (.invokespecial 215, 3) := by decide +kernel
theorem d_SC_sendUp_80 : decode prog_1_method_24_code 80 = .ok (.astore 11, 2) := by decide +kernel
theorem d_SC_sendUp_82 : decode prog_1_method_24_code 82 = .ok (.aload 11, 2) := by decide +kernel
theorem d_SC_sendUp_84 : decode prog_1_method_24_code 84 = .ok (.iload 5, 2) := by decide +kernel
theorem d_SC_sendUp_86 : decode prog_1_method_24_code 86 = .ok (.aload_n 1, 1) := by decide +kernel
theorem d_SC_sendUp_87 : decode prog_1_method_24_code 87 = .ok (.invokevirtual 218, 3) := by decide +kernel
theorem d_SC_sendUp_90 : decode prog_1_method_24_code 90 = .ok (.lload_n 2, 1) := by decide +kernel
theorem d_SC_sendUp_91 : decode prog_1_method_24_code 91 = .ok (.iload 4, 2) := by decide +kernel
theorem d_SC_sendUp_93 : decode prog_1_method_24_code 93 = .ok (.invokevirtual 221, 3) := by decide +kernel
theorem d_SC_sendUp_96 : decode prog_1_method_24_code 96 = .ok (.aload 11, 2) := by decide +kernel
theorem d_SC_sendUp_98 : decode prog_1_method_24_code 98 = .ok (.iload 10, 2) := by decide +kernel
theorem d_SC_sendUp_100 : decode prog_1_method_24_code 100 = .ok (.invokevirtual 225, 3) := by decide +kernel
theorem d_SC_sendUp_103 : decode prog_1_method_24_code 103 = .ok (.iload 6, 2) := by decide +kernel
theorem d_SC_sendUp_105 : decode prog_1_method_24_code 105 = .ok (.iconst 1, 1) := by decide +kernel
theorem d_SC_sendUp_106 : decode prog_1_method_24_code 106 = .ok (.if_icmp .le 16, 3) := by decide +kernel
theorem d_SC_sendUp_109 : decode prog_1_method_24_code 109 = .ok (.aload 11, 2) := by decide +kernel
theorem d_SC_sendUp_111 : decode prog_1_method_24_code 111 = .ok (.aload_n 1, 1) := by decide +kernel
theorem d_SC_sendUp_112 : decode prog_1_method_24_code 112 = .ok (.getfield 228, 3) := by decide +kernel
theorem d_SC_sendUp_115 : decode prog_1_method_24_code 115 = .ok (.iload 6, 2) := by decide +kernel
theorem d_SC_sendUp_117 : decode prog_1_method_24_code 117 = .ok (.iload 8, 2) := by decide +kernel
theorem d_SC_sendUp_119 : decode prog_1_method_24_code 119 = .ok (.invokevirtual 231, 3) := by decide +kernel
theorem d_SC_sendUp_122 : decode prog_1_method_24_code 122 = .ok (.aload_n 0, 1) := by decide +kernel
theorem d_SC_sendUp_123 : decode prog_1_method_24_code 123 = .ok (.getfield 27, 3) := by decide +kernel
theorem d_SC_sendUp_126 : decode prog_1_method_24_code 126 = .ok (.iload 7, 2) := by decide +kernel
theorem d_SC_sendUp_128 : decode prog_1_method_24_code 128 = .ok (.iload 9, 2) := by decide +kernel
theorem d_SC_sendUp_130 : decode prog_1_method_24_code 130 = .ok (.aload 11, 2) := by decide +kernel
theorem d_SC_sendUp_132 : decode prog_1_method_24_code 132 = .ok (.invokevirtual 235, 3) := by decide +kernel
theorem d_SC_sendUp_135 : decode prog_1_method_24_code 135 = .ok (.aload_n 0, 1) := by decide +kernel
theorem d_SC_sendUp_136 : decode prog_1_method_24_code 136 = .ok (.getfield 20, 3) := by decide +kernel
theorem d_SC_sendUp_139 : decode prog_1_method_24_code 139 = .ok (.aload 11, 2) := by decide +kernel
theorem d_SC_sendUp_141 : decode prog_1_method_24_code 141 = .ok (.invokevirtual 167, 3) := by decide +kernel
theorem d_SC_sendUp_144 : decode prog_1_method_24_code 144 = .ok (.iload 9, 2) := by decide +kernel
theorem d_SC_sendUp_146 : decode prog_1_method_24_code 146 = .ok (.istore 7, 2) := by decide +kernel
theorem d_SC_sendUp_148 : decode prog_1_method_24_code 148 = .ok (.iinc 8 1, 3) := by decide +kernel
theorem d_SC_sendUp_151 : decode prog_1_method_24_code 151 = .ok (.goto (-145), 3) := by decide +kernel
theorem d_SC_sendUp_154 : decode prog_1_method_24_code 154 = .ok (.iload 6, 2) := by decide +kernel
theorem d_SC_sendUp_156 : decode prog_1_method_24_code 156 = .ok (.iconst 1, 1) := by decide +kernel
theorem d_SC_sendUp_157 : decode prog_1_method_24_code 157 = .ok (.if_icmp .le 7, 3) := by decide +kernel
theorem d_SC_sendUp_160 : decode prog_1_method_24_code 160 = .ok (.aload_n 1, 1) := by decide +kernel
theorem d_SC_sendUp_161 : decode prog_1_method_24_code 161 = .ok (.invokevirtual 239, 3) := by decide +kernel
theorem d_SC_sendUp_164 : decode prog_1_method_24_code 164 = .ok (.return_, 1) := by decide +kernel
theorem d_SC_earliestPlace_0 : decode prog_1_method_25_code 0 = .ok (.iconst (-1), 1) := by decide +kernel
theorem d_SC_earliestPlace_1 : decode prog_1_method_25_code 1 = .ok (.istore_n 1, 1) := by decide +kernel
theorem d_SC_earliestPlace_2 : decode prog_1_method_25_code 2 = .ok (.iconst 0, 1) := by decide +kernel
theorem d_SC_earliestPlace_3 : decode prog_1_method_25_code 3 = .ok (.istore_n 2, 1) := by decide +kernel
theorem d_SC_earliestPlace_4 : decode prog_1_method_25_code 4 = .ok (.iload_n 2, 1) := by decide +kernel
theorem d_SC_earliestPlace_5 : decode prog_1_method_25_code 5 = .ok (.aload_n 0, 1) := by decide +kernel
theorem d_SC_earliestPlace_6 : decode prog_1_method_25_code 6 = .ok (.getfield 38, 3) := by decide +kernel
theorem d_SC_earliestPlace_9 : decode prog_1_method_25_code 9 = .ok (.invokevirtual 101, 3) := by decide +kernel
theorem d_SC_earliestPlace_12 : decode prog_1_method_25_code 12 = .ok (.if_icmp .ge 46, 3) := by decide +kernel
theorem d_SC_earliestPlace_15 : decode prog_1_method_25_code 15 = .ok (.iload_n 1, 1) := by decide +kernel
theorem d_SC_earliestPlace_16 : decode prog_1_method_25_code 16 = .ok (.ifCond .lt 34, 3) := by decide +kernel
theorem d_SC_earliestPlace_19 : decode prog_1_method_25_code 19 = .ok (.aload_n 0, 1) := by decide +kernel
theorem d_SC_earliestPlace_20 : decode prog_1_method_25_code 20 = .ok (.getfield 38, 3) := by decide +kernel
theorem d_SC_earliestPlace_23 : decode prog_1_method_25_code 23 = .ok (.iload_n 2, 1) := by decide +kernel
theorem d_SC_earliestPlace_24 : decode prog_1_method_25_code 24 = .ok (.invokevirtual 134, 3) := by decide +kernel
theorem d_SC_earliestPlace_27 : decode prog_1_method_25_code 27 = .ok (.checkcast 117, 3) := by decide +kernel
theorem d_SC_earliestPlace_30 : decode prog_1_method_25_code 30 = .ok (.invokevirtual 138, 3) := by decide +kernel
theorem d_SC_earliestPlace_33 : decode prog_1_method_25_code 33 = .ok (.aload_n 0, 1) := by decide +kernel
theorem d_SC_earliestPlace_34 : decode prog_1_method_25_code 34 = .ok (.getfield 38, 3) := by decide +kernel
theorem d_SC_earliestPlace_37 : decode prog_1_method_25_code 37 = .ok (.iload_n 1, 1) := by decide +kernel
theorem d_SC_earliestPlace_38 : decode prog_1_method_25_code 38 = .ok (.invokevirtual 134, 3) := by decide +kernel
theorem d_SC_earliestPlace_41 : decode prog_1_method_25_code 41 = .ok (.checkcast 117, 3) := by decide +kernel
theorem d_SC_earliestPlace_44 : decode prog_1_method_25_code 44 = .ok (.invokevirtual 138, 3) := by decide +kernel
theorem d_SC_earliestPlace_47 : decode prog_1_method_25_code 47 = .ok (.if_icmp .ge 5, 3) := by decide +kernel
theorem d_SC_earliestPlace_50 : decode prog_1_method_25_code 50 = .ok (.iload_n 2, 1) := by decide +kernel
theorem d_SC_earliestPlace_51 : decode prog_1_method_25_code 51 = .ok (.istore_n 1, 1) := by decide +kernel
theorem d_SC_earliestPlace_52 : decode prog_1_method_25_code 52 = .ok (.iinc 2 1, 3) := by decide +kernel
theorem d_SC_earliestPlace_55 : decode prog_1_method_25_code 55 = .ok (.goto (-51), 3) := by decide +kernel
theorem d_SC_earliestPlace_58 : decode prog_1_method_25_code 58 = .ok (.iload_n 1, 1) := by decide +kernel
theorem d_SC_earliestPlace_59 : decode prog_1_method_25_code 59 = .ok (.ireturn, 1) := by decide +kernel
end
section
theorem d_SC_dealWith_0 : decode prog_1_method_26_code 0 = .ok (.iload_n 2, 1) := by decide +kernel
theorem d_SC_dealWith_1 : decode prog_1_method_26_code 1 = .ok (.aload_n 1, 1) := by decide +kernel
theorem d_SC_dealWith_2 : decode prog_1_method_26_code 2 = .ok (.getfield 242, 3) := by decide +kernel
theorem d_SC_dealWith_5 : decode prog_1_method_26_code 5 = .ok (.if_icmp .ne 11, 3) := by decide +kernel
theorem d_SC_dealWith_8 : decode prog_1_method_26_code 8 = .ok (.aload_n 1, 1) := by decide +kernel
theorem d_SC_dealWith_9 : decode prog_1_method_26_code 9 = .ok (.getstatic 245, 3) := by decide +kernel
theorem d_SC_dealWith_12 : decode prog_1_method_26_code 12 = .ok (.putfield 145, 3) := by decide +kernel
theorem d_SC_dealWith_15 : decode prog_1_method_26_code 15 = .ok (.return_, 1) := by decide +kernel
theorem d_SC_dealWith_16 : decode prog_1_method_26_code 16 = .ok (.aload_n 1, 1) := by decide +kernel
theorem d_SC_dealWith_17 : decode prog_1_method_26_code 17 = .ok (.dup, 1) := by decide +kernel
theorem d_SC_dealWith_18 : decode prog_1_method_26_code 18 = .ok (.getfield 199, 3) := by decide +kernel
theorem d_SC_dealWith_21 : decode prog_1_method_26_code 21 = .ok (.iconst 1, 1) := by decide +kernel
theorem d_SC_dealWith_22 : decode prog_1_method_26_code 22 = .ok (.iadd, 1) := by decide +kernel
theorem d_SC_dealWith_23 : decode prog_1_method_26_code 23 = .ok (.putfield 199, 3) := by decide +kernel
theorem d_SC_dealWith_26 : decode prog_1_method_26_code 26 = .ok (.aload_n 0, 1) := by decide +kernel
theorem d_SC_dealWith_27 : decode prog_1_method_26_code 27 = .ok (.aload_n 1, 1) := by decide +kernel
theorem d_SC_dealWith_28 : decode prog_1_method_26_code 28 = .ok (.getfield 248, 3) := by decide +kernel
theorem d_SC_dealWith_31 : decode prog_1_method_26_code 31 = .ok (.invokevirtual 251, 3) := by decide +kernel
theorem d_SC_dealWith_34 : decode prog_1_method_26_code 34 = .ok (.astore_n 3, 1) := by decide +kernel
theorem d_SC_dealWith_35 : decode prog_1_method_26_code 35 = .ok (.aload_n 3, 1) := by decide +kernel
theorem d_SC_dealWith_36 : decode prog_1_method_26_code 36 = .ok (.ifnonnull 13, 3) := by decide +kernel
theorem d_SC_dealWith_39 : decode prog_1_method_26_code 39 = .ok (.aload_n 1, 1) := by decide +kernel
theorem d_SC_dealWith_40 : decode prog_1_method_26_code 40 = .ok (.getstatic 255, 3) := by decide +kernel
theorem d_SC_dealWith_43 : decode prog_1_method_26_code 43 = .ok (.putfield 145, 3) := by decide +kernel
theorem d_SC_dealWith_46 : decode prog_1_method_26_code 46 = .ok (.goto 46, 3) := by decide +kernel
theorem d_SC_dealWith_49 : decode prog_1_method_26_code 49 = .ok (.aload_n 3, 1) := by decide +kernel
theorem d_SC_dealWith_50 : decode prog_1_method_26_code 50 = .ok (.getfield 54, 3) := by decide +kernel
theorem d_SC_dealWith_53 : decode prog_1_method_26_code 53 = .ok (.ifCond .eq 34, 3) := by decide +kernel
theorem d_SC_dealWith_56 : decode prog_1_method_26_code 56 = .ok (.aload_n 3, 1) := by decide +kernel
theorem d_SC_dealWith_57 : decode prog_1_method_26_code 57 = .ok (.getfield 160, 3) := by decide +kernel
theorem d_SC_dealWith_60 : decode prog_1_method_26_code 60 = .ok (.invokevirtual 83, 3) := by decide +kernel
theorem d_SC_dealWith_63 : decode prog_1_method_26_code 63 = .ok (.ifCond .le 24, 3) := by decide +kernel
theorem d_SC_dealWith_66 : decode prog_1_method_26_code 66 = .ok (.aload_n 3, 1) := by decide +kernel
theorem d_SC_dealWith_67 : decode prog_1_method_26_code 67 = .ok (.getfield 160, 3) := by decide +kernel
theorem d_SC_dealWith_70 : decode prog_1_method_26_code 70 = .ok (.aload_n 1, 1) := by decide +kernel
theorem d_SC_dealWith_71 : decode prog_1_method_26_code 71 = .ok (.invokevirtual 258, 3) := by decide +kernel
theorem d_SC_dealWith_74 : decode prog_1_method_26_code 74 = .ok (.invokevirtual 167, 3) := by decide +kernel
theorem d_SC_dealWith_77 : decode prog_1_method_26_code 77 = .ok (.aload_n 1, 1) := by decide +kernel
theorem d_SC_dealWith_78 : decode prog_1_method_26_code 78 = .ok (.getstatic 261, 3) := by decide +kernel
theorem d_SC_dealWith_81 : decode prog_1_method_26_code 81 = .ok (.putfield 145, 3) := by decide +kernel
theorem d_SC_dealWith_84 : decode prog_1_method_26_code 84 = .ok (.goto 8, 3) := by decide +kernel
theorem d_SC_dealWith_87 : decode prog_1_method_26_code 87 = .ok (.aload_n 1, 1) := by decide +kernel
theorem d_SC_dealWith_88 : decode prog_1_method_26_code 88 = .ok (.iload_n 2, 1) := by decide +kernel
theorem d_SC_dealWith_89 : decode prog_1_method_26_code 89 = .ok (.invokevirtual 264, 3) := by decide +kernel
theorem d_SC_dealWith_92 : decode prog_1_method_26_code 92 = .ok (.return_, 1) := by decide +kernel
theorem d_SC_holderOf_0 : decode prog_1_method_27_code 0 = .ok (.iconst 0, 1) := by decide +kernel
theorem d_SC_holderOf_1 : decode prog_1_method_27_code 1 = .ok (.istore_n 3, 1) := by decide +kernel
theorem d_SC_holderOf_2 : decode prog_1_method_27_code 2 = .ok (.iload_n 3, 1) := by decide +kernel
theorem d_SC_holderOf_3 : decode prog_1_method_27_code 3 = .ok (.iconst 4, 1) := by decide +kernel
theorem d_SC_holderOf_4 : decode prog_1_method_27_code 4 = .ok (.if_icmp .ge 30, 3) := by decide +kernel
theorem d_SC_holderOf_7 : decode prog_1_method_27_code 7 = .ok (.aload_n 0, 1) := by decide +kernel
theorem d_SC_holderOf_8 : decode prog_1_method_27_code 8 = .ok (.getfield 11, 3) := by decide +kernel
theorem d_SC_holderOf_11 : decode prog_1_method_27_code 11 = .ok (.iload_n 3, 1) := by decide +kernel
theorem d_SC_holderOf_12 : decode prog_1_method_27_code 12 = .ok (.aaload, 1) := by decide +kernel
theorem d_SC_holderOf_13 : decode prog_1_method_27_code 13 = .ok (.getfield 50, 3) := by decide +kernel
theorem d_SC_holderOf_16 : decode prog_1_method_27_code 16 = .ok (.lload_n 1, 1) := by decide +kernel
theorem d_SC_holderOf_17 : decode prog_1_method_27_code 17 = .ok (.lcmp, 1) := by decide +kernel
theorem d_SC_holderOf_18 : decode prog_1_method_27_code 18 = .ok (.ifCond .ne 10, 3) := by decide +kernel
theorem d_SC_holderOf_21 : decode prog_1_method_27_code 21 = .ok (.aload_n 0, 1) := by decide +kernel
theorem d_SC_holderOf_22 : decode prog_1_method_27_code 22 = .ok (.getfield 11, 3) := by decide +kernel
theorem d_SC_holderOf_25 : decode prog_1_method_27_code 25 = .ok (.iload_n 3, 1) := by decide +kernel
theorem d_SC_holderOf_26 : decode prog_1_method_27_code 26 = .ok (.aaload, 1) := by decide +kernel
theorem d_SC_holderOf_27 : decode prog_1_method_27_code 27 = .ok (.areturn, 1) := by decide +kernel
theorem d_SC_holderOf_28 : decode prog_1_method_27_code 28 = .ok (.iinc 3 1, 3) := by decide +kernel
theorem d_SC_holderOf_31 : decode prog_1_method_27_code 31 = .ok (.goto (-29), 3) := by decide +kernel
theorem d_SC_holderOf_34 : decode prog_1_method_27_code 34 = .ok (.aconst_null, 1) := by decide +kernel
theorem d_SC_holderOf_35 : decode prog_1_method_27_code 35 = .ok (.areturn, 1) := by decide +kernel
theorem d_MO_init_0 : decode prog_12_method_1_code 0 = .ok (.aload_n 0, 1) := by decide +kernel
theorem d_MO_init_1 : decode prog_12_method_1_code 1 = .ok (.invokespecial 1, 3) := by decide +kernel
theorem d_MO_init_4 : decode prog_12_method_1_code 4 = .ok (.aload_n 0, 1) := by decide +kernel
theorem d_MO_init_5 : decode prog_12_method_1_code 5 = .ok (.sipush 480, 3) := by decide +kernel
theorem d_MO_init_8 : decode prog_12_method_1_code 8 = .ok (.newarray .int, 2) := by decide +kernel
theorem d_MO_init_10 : decode prog_12_method_1_code 10 = .ok (.putfield 7, 3) := by decide +kernel
theorem d_MO_init_13 : decode prog_12_method_1_code 13 = .ok (.aload_n 0, 1) := by decide +kernel
theorem d_MO_init_14 : decode prog_12_method_1_code 14 = .ok (.sipush 960, 3) := by decide +kernel
theorem d_MO_init_17 : decode prog_12_method_1_code 17 = .ok (.newarray .int, 2) := by decide +kernel
theorem d_MO_init_19 : decode prog_12_method_1_code 19 = .ok (.putfield 13, 3) := by decide +kernel
theorem d_MO_init_22 : decode prog_12_method_1_code 22 = .ok (.aload_n 0, 1) := by decide +kernel
theorem d_MO_init_23 : decode prog_12_method_1_code 23 = .ok (.iconst 4, 1) := by decide +kernel
theorem d_MO_init_24 : decode prog_12_method_1_code 24 = .ok (.newarray .long, 2) := by decide +kernel
theorem d_MO_init_26 : decode prog_12_method_1_code 26 = .ok (.putfield 16, 3) := by decide +kernel
theorem d_MO_init_29 : decode prog_12_method_1_code 29 = .ok (.aload_n 0, 1) := by decide +kernel
theorem d_MO_init_30 : decode prog_12_method_1_code 30 = .ok (.iconst 4, 1) := by decide +kernel
theorem d_MO_init_31 : decode prog_12_method_1_code 31 = .ok (.newarray .boolean, 2) := by decide +kernel
theorem d_MO_init_33 : decode prog_12_method_1_code 33 = .ok (.putfield 20, 3) := by decide +kernel
theorem d_MO_init_36 : decode prog_12_method_1_code 36 = .ok (.aload_n 0, 1) := by decide +kernel
theorem d_MO_init_37 : decode prog_12_method_1_code 37 = .ok (.iconst 4, 1) := by decide +kernel
theorem d_MO_init_38 : decode prog_12_method_1_code 38 = .ok (.newarray .int, 2) := by decide +kernel
theorem d_MO_init_40 : decode prog_12_method_1_code 40 = .ok (.putfield 24, 3) := by decide +kernel
theorem d_MO_init_43 : decode prog_12_method_1_code 43 = .ok (.aload_n 0, 1) := by decide +kernel
theorem d_MO_init_44 : decode prog_12_method_1_code 44 = .ok (.iconst 4, 1) := by decide +kernel
theorem d_MO_init_45 : decode prog_12_method_1_code 45 = .ok (.newarray .int, 2) := by decide +kernel
theorem d_MO_init_47 : decode prog_12_method_1_code 47 = .ok (.putfield 27, 3) := by decide +kernel
theorem d_MO_init_50 : decode prog_12_method_1_code 50 = .ok (.aload_n 0, 1) := by decide +kernel
theorem d_MO_init_51 : decode prog_12_method_1_code 51 = .ok (.iconst 4, 1) := by decide +kernel
theorem d_MO_init_52 : decode prog_12_method_1_code 52 = .ok (.newarray .int, 2) := by decide +kernel
theorem d_MO_init_54 : decode prog_12_method_1_code 54 = .ok (.putfield 30, 3) := by decide +kernel
theorem d_MO_init_57 : decode prog_12_method_1_code 57 = .ok (.aload_n 0, 1) := by decide +kernel
theorem d_MO_init_58 : decode prog_12_method_1_code 58 = .ok (.sipush 1920, 3) := by decide +kernel
theorem d_MO_init_61 : decode prog_12_method_1_code 61 = .ok (.newarray .int, 2) := by decide +kernel
theorem d_MO_init_63 : decode prog_12_method_1_code 63 = .ok (.putfield 33, 3) := by decide +kernel
theorem d_MO_init_66 : decode prog_12_method_1_code 66 = .ok (.aload_n 0, 1) := by decide +kernel
theorem d_MO_init_67 : decode prog_12_method_1_code 67 = .ok (.iconst 4, 1) := by decide +kernel
theorem d_MO_init_68 : decode prog_12_method_1_code 68 = .ok (.newarray .long, 2) := by decide +kernel
theorem d_MO_init_70 : decode prog_12_method_1_code 70 = .ok (.putfield 36, 3) := by decide +kernel
theorem d_MO_init_73 : decode prog_12_method_1_code 73 = .ok (.aload_n 0, 1) := by decide +kernel
theorem d_MO_init_74 : decode prog_12_method_1_code 74 = .ok (.sipush 176, 3) := by decide +kernel
theorem d_MO_init_77 : decode prog_12_method_1_code 77 = .ok (.newarray .int, 2) := by decide +kernel
theorem d_MO_init_79 : decode prog_12_method_1_code 79 = .ok (.putfield 39, 3) := by decide +kernel
theorem d_MO_init_82 : decode prog_12_method_1_code 82 = .ok (.aload_n 0, 1) := by decide +kernel
theorem d_MO_init_83 : decode prog_12_method_1_code 83 = .ok (.sipush 8960, 3) := by decide +kernel
theorem d_MO_init_86 : decode prog_12_method_1_code 86 = .ok (.newarray .int, 2) := by decide +kernel
theorem d_MO_init_88 : decode prog_12_method_1_code 88 = .ok (.putfield 42, 3) := by decide +kernel
theorem d_MO_init_91 : decode prog_12_method_1_code 91 = .ok (.aload_n 0, 1) := by decide +kernel
theorem d_MO_init_92 : decode prog_12_method_1_code 92 = .ok (.bipush 56, 2) := by decide +kernel
theorem d_MO_init_94 : decode prog_12_method_1_code 94 = .ok (.newarray .int, 2) := by decide +kernel
theorem d_MO_init_96 : decode prog_12_method_1_code 96 = .ok (.putfield 45, 3) := by decide +kernel
theorem d_MO_init_99 : decode prog_12_method_1_code 99 = .ok (.aload_n 0, 1) := by decide +kernel
theorem d_MO_init_100 : decode prog_12_method_1_code 100 = .ok (.bipush 56, 2) := by decide +kernel
theorem d_MO_init_102 : decode prog_12_method_1_code 102 = .ok (.newarray .int, 2) := by decide +kernel
theorem d_MO_init_104 : decode prog_12_method_1_code 104 = .ok (.putfield 48, 3) := by decide +kernel
theorem d_MO_init_107 : decode prog_12_method_1_code 107 = .ok (.aload_n 0, 1) := by decide +kernel
theorem d_MO_init_108 : decode prog_12_method_1_code 108 = .ok (.bipush 9, 2) := by decide +kernel
theorem d_MO_init_110 : decode prog_12_method_1_code 110 = .ok (.newarray .int, 2) := by decide +kernel
theorem d_MO_init_112 : decode prog_12_method_1_code 112 = .ok (.putfield 51, 3) := by decide +kernel
theorem d_MO_init_115 : decode prog_12_method_1_code 115 = .ok (.aload_n 0, 1) := by decide +kernel
theorem d_MO_init_116 : decode prog_12_method_1_code 116 = .ok (.bipush 100, 2) := by decide +kernel
theorem d_MO_init_118 : decode prog_12_method_1_code 118 = .ok (.newarray .int, 2) := by decide +kernel
theorem d_MO_init_120 : decode prog_12_method_1_code 120 = .ok (.putfield 54, 3) := by decide +kernel
theorem d_MO_init_123 : decode prog_12_method_1_code 123 = .ok (.aload_n 0, 1) := by decide +kernel
theorem d_MO_init_124 : decode prog_12_method_1_code 124 = .ok (.bipush 100, 2) := by decide +kernel
theorem d_MO_init_126 : decode prog_12_method_1_code 126 = .ok (.newarray .int, 2) := by decide +kernel
theorem d_MO_init_128 : decode prog_12_method_1_code 128 = .ok (.putfield 57, 3) := by decide +kernel
theorem d_MO_init_131 : decode prog_12_method_1_code 131 = .ok (.aload_n 0, 1) := by decide +kernel
theorem d_MO_init_132 : decode prog_12_method_1_code 132 = .ok (.bipush 100, 2) := by decide +kernel
theorem d_MO_init_134 : decode prog_12_method_1_code 134 = .ok (.newarray .long, 2) := by decide +kernel
theorem d_MO_init_136 : decode prog_12_method_1_code 136 = .ok (.putfield 60, 3) := by decide +kernel
theorem d_MO_init_139 : decode prog_12_method_1_code 139 = .ok (.aload_n 0, 1) := by decide +kernel
theorem d_MO_init_140 : decode prog_12_method_1_code 140 = .ok (.bipush 100, 2) := by decide +kernel
theorem d_MO_init_142 : decode prog_12_method_1_code 142 = .ok (.newarray .long, 2) := by decide +kernel
theorem d_MO_init_144 : decode prog_12_method_1_code 144 = .ok (.putfield 63, 3) := by decide +kernel
theorem d_MO_init_147 : decode prog_12_method_1_code 147 = .ok (.aload_n 0, 1) := by decide +kernel
theorem d_MO_init_148 : decode prog_12_method_1_code 148 = .ok (.bipush 100, 2) := by decide +kernel
theorem d_MO_init_150 : decode prog_12_method_1_code 150 = .ok (.newarray .boolean, 2) := by decide +kernel
theorem d_MO_init_152 : decode prog_12_method_1_code 152 = .ok (.putfield 66, 3) := by decide +kernel
theorem d_MO_init_155 : decode prog_12_method_1_code 155 = .ok (.aload_n 0, 1) := by decide +kernel
theorem d_MO_init_156 : decode prog_12_method_1_code 156 = .ok (.bipush 100, 2) := by decide +kernel
theorem d_MO_init_158 : decode prog_12_method_1_code 158 = .ok (.newarray .boolean, 2) := by decide +kernel
theorem d_MO_init_160 : decode prog_12_method_1_code 160 = .ok (.putfield 69, 3) := by decide +kernel
theorem d_MO_init_163 : decode prog_12_method_1_code 163 = .ok (.aload_n 0, 1) := by decide +kernel
theorem d_MO_init_164 : decode prog_12_method_1_code 164 = .ok (.bipush 100, 2) := by decide +kernel
theorem d_MO_init_166 : decode prog_12_method_1_code 166 = .ok (.newarray .int, 2) := by decide +kernel
theorem d_MO_init_168 : decode prog_12_method_1_code 168 = .ok (.putfield 72, 3) := by decide +kernel
theorem d_MO_init_171 : decode prog_12_method_1_code 171 = .ok (.aload_n 0, 1) := by decide +kernel
theorem d_MO_init_172 : decode prog_12_method_1_code 172 = .ok (.bipush 100, 2) := by decide +kernel
theorem d_MO_init_174 : decode prog_12_method_1_code 174 = .ok (.newarray .int, 2) := by decide +kernel
theorem d_MO_init_176 : decode prog_12_method_1_code 176 = .ok (.putfield 75, 3) := by decide +kernel
theorem d_MO_init_179 : decode prog_12_method_1_code 179 = .ok (.aload_n 0, 1) := by decide +kernel
theorem d_MO_init_180 : decode prog_12_method_1_code 180 = .ok (.bipush 100, 2) := by decide +kernel
theorem d_MO_init_182 : decode prog_12_method_1_code 182 = .ok (.newarray .int, 2) := by decide +kernel
theorem d_MO_init_184 : decode prog_12_method_1_code 184 = .ok (.putfield 78, 3) := by decide +kernel
theorem d_MO_init_187 : decode prog_12_method_1_code 187 = .ok (.aload_n 0, 1) := by decide +kernel
theorem d_MO_init_188 : decode prog_12_method_1_code 188 = .ok (.bipush 100, 2) := by decide +kernel
theorem d_MO_init_190 : decode prog_12_method_1_code 190 = .ok (.newarray .int, 2) := by decide +kernel
theorem d_MO_init_192 : decode prog_12_method_1_code 192 = .ok (.putfield 81, 3) := by decide +kernel
theorem d_MO_init_195 : decode prog_12_method_1_code 195 = .ok (.aload_n 0, 1) := by decide +kernel
theorem d_MO_init_196 : decode prog_12_method_1_code 196 = .ok (.bipush 100, 2) := by decide +kernel
theorem d_MO_init_198 : decode prog_12_method_1_code 198 = .ok (.newarray .int, 2) := by decide +kernel
theorem d_MO_init_200 : decode prog_12_method_1_code 200 = .ok (.putfield 84, 3) := by decide +kernel
theorem d_MO_init_203 : decode prog_12_method_1_code 203 = .ok (.aload_n 0, 1) := by decide +kernel
theorem d_MO_init_204 : decode prog_12_method_1_code 204 = .ok (.bipush 100, 2) := by decide +kernel
theorem d_MO_init_206 : decode prog_12_method_1_code 206 = .ok (.newarray .int, 2) := by decide +kernel
theorem d_MO_init_208 : decode prog_12_method_1_code 208 = .ok (.putfield 87, 3) := by decide +kernel
theorem d_MO_init_211 : decode prog_12_method_1_code 211 = .ok (.aload_n 0, 1) := by decide +kernel
theorem d_MO_init_212 : decode prog_12_method_1_code 212 = .ok (.bipush 12, 2) := by decide +kernel
theorem d_MO_init_214 : decode prog_12_method_1_code 214 = .ok (.newarray .boolean, 2) := by decide +kernel
theorem d_MO_init_216 : decode prog_12_method_1_code 216 = .ok (.putfield 90, 3) := by decide +kernel
theorem d_MO_init_219 : decode prog_12_method_1_code 219 = .ok (.aload_n 0, 1) := by decide +kernel
theorem d_MO_init_220 : decode prog_12_method_1_code 220 = .ok (.bipush 12, 2) := by decide +kernel
theorem d_MO_init_222 : decode prog_12_method_1_code 222 = .ok (.newarray .int, 2) := by decide +kernel
theorem d_MO_init_224 : decode prog_12_method_1_code 224 = .ok (.putfield 93, 3) := by decide +kernel
theorem d_MO_init_227 : decode prog_12_method_1_code 227 = .ok (.aload_n 0, 1) := by decide +kernel
theorem d_MO_init_228 : decode prog_12_method_1_code 228 = .ok (.sipush 1728, 3) := by decide +kernel
theorem d_MO_init_231 : decode prog_12_method_1_code 231 = .ok (.newarray .int, 2) := by decide +kernel
theorem d_MO_init_233 : decode prog_12_method_1_code 233 = .ok (.putfield 96, 3) := by decide +kernel
theorem d_MO_init_236 : decode prog_12_method_1_code 236 = .ok (.aload_n 0, 1) := by decide +kernel
theorem d_MO_init_237 : decode prog_12_method_1_code 237 = .ok (.bipush 12, 2) := by decide +kernel
theorem d_MO_init_239 : decode prog_12_method_1_code 239 = .ok (.newarray .long, 2) := by decide +kernel
theorem d_MO_init_241 : decode prog_12_method_1_code 241 = .ok (.putfield 99, 3) := by decide +kernel
theorem d_MO_init_244 : decode prog_12_method_1_code 244 = .ok (.aload_n 0, 1) := by decide +kernel
theorem d_MO_init_245 : decode prog_12_method_1_code 245 = .ok (.bipush 12, 2) := by decide +kernel
theorem d_MO_init_247 : decode prog_12_method_1_code 247 = .ok (.newarray .int, 2) := by decide +kernel
theorem d_MO_init_249 : decode prog_12_method_1_code 249 = .ok (.putfield 102, 3) := by decide +kernel
theorem d_MO_init_252 : decode prog_12_method_1_code 252 = .ok (.aload_n 0, 1) := by decide +kernel
theorem d_MO_init_253 : decode prog_12_method_1_code 253 = .ok (.bipush 12, 2) := by decide +kernel
theorem d_MO_init_255 : decode prog_12_method_1_code 255 = .ok (.newarray .int, 2) := by decide +kernel
theorem d_MO_init_257 : decode prog_12_method_1_code 257 = .ok (.putfield 105, 3) := by decide +kernel
theorem d_MO_init_260 : decode prog_12_method_1_code 260 = .ok (.aload_n 0, 1) := by decide +kernel
theorem d_MO_init_261 : decode prog_12_method_1_code 261 = .ok (.iconst 4, 1) := by decide +kernel
theorem d_MO_init_262 : decode prog_12_method_1_code 262 = .ok (.newarray .int, 2) := by decide +kernel
theorem d_MO_init_264 : decode prog_12_method_1_code 264 = .ok (.putfield 108, 3) := by decide +kernel
theorem d_MO_init_267 : decode prog_12_method_1_code 267 = .ok (.aload_n 0, 1) := by decide +kernel
theorem d_MO_init_268 : decode prog_12_method_1_code 268 = .ok (.bipush 36, 2) := by decide +kernel
theorem d_MO_init_270 : decode prog_12_method_1_code 270 = .ok (.newarray .int, 2) := by decide +kernel
theorem d_MO_init_272 : decode prog_12_method_1_code 272 = .ok (.putfield 111, 3) := by decide +kernel
theorem d_MO_init_275 : decode prog_12_method_1_code 275 = .ok (.aload_n 0, 1) := by decide +kernel
theorem d_MO_init_276 : decode prog_12_method_1_code 276 = .ok (.sipush 5508, 3) := by decide +kernel
theorem d_MO_init_279 : decode prog_12_method_1_code 279 = .ok (.newarray .int, 2) := by decide +kernel
theorem d_MO_init_281 : decode prog_12_method_1_code 281 = .ok (.putfield 114, 3) := by decide +kernel
theorem d_MO_init_284 : decode prog_12_method_1_code 284 = .ok (.return_, 1) := by decide +kernel
theorem d_MO_plain_0 : decode prog_12_method_2_code 0 = .ok (.iload_n 0, 1) := by decide +kernel
theorem d_MO_plain_1 : decode prog_12_method_2_code 1 = .ok (.tableswitch 644 0 127 #[527, 530, 534, 537, 541, 545, 549, 553, 557, 561, 644, 565, 569, 644, 573, 577, 581, 585, 588, 592, 596, 600, 604, 608, 612, 616, 620, 644, 624, 628, 632, 636, 644, 644, 644, 644, 644, 644, 644, 644, 644, 644, 644, 644, 644, 644, 644, 644, 644, 644, 644, 644, 644, 644, 644, 644, 644, 644, 644, 644, 644, 644, 644, 644, 644, 644, 644, 644, 644, 644, 644, 644, 644, 644, 644, 644, 644, 644, 644, 644, 644, 644, 644, 644, 644, 644, 644, 644, 644, 644, 644, 644, 644, 644, 644, 644, 644, 644, 644, 644, 644, 644, 644, 644, 644, 644, 644, 644, 644, 644, 644, 644, 644, 644, 644, 644, 644, 644, 644, 644, 644, 644, 644, 644, 644, 644, 644, 640], 527) := by decide +kernel
theorem d_MO_plain_528 : decode prog_12_method_2_code 528 = .ok (.bipush 64, 2) := by decide +kernel
theorem d_MO_plain_530 : decode prog_12_method_2_code 530 = .ok (.ireturn, 1) := by decide +kernel
theorem d_MO_plain_531 : decode prog_12_method_2_code 531 = .ok (.sipush 163, 3) := by decide +kernel
theorem d_MO_plain_534 : decode prog_12_method_2_code 534 = .ok (.ireturn, 1) := by decide +kernel
theorem d_MO_plain_535 : decode prog_12_method_2_code 535 = .ok (.bipush 36, 2) := by decide +kernel
theorem d_MO_plain_537 : decode prog_12_method_2_code 537 = .ok (.ireturn, 1) := by decide +kernel
theorem d_MO_plain_538 : decode prog_12_method_2_code 538 = .ok (.sipush 165, 3) := by decide +kernel
theorem d_MO_plain_541 : decode prog_12_method_2_code 541 = .ok (.ireturn, 1) := by decide +kernel
theorem d_MO_plain_542 : decode prog_12_method_2_code 542 = .ok (.sipush 232, 3) := by decide +kernel
theorem d_MO_plain_545 : decode prog_12_method_2_code 545 = .ok (.ireturn, 1) := by decide +kernel
theorem d_MO_plain_546 : decode prog_12_method_2_code 546 = .ok (.sipush 233, 3) := by decide +kernel
theorem d_MO_plain_549 : decode prog_12_method_2_code 549 = .ok (.ireturn, 1) := by decide +kernel
theorem d_MO_plain_550 : decode prog_12_method_2_code 550 = .ok (.sipush 249, 3) := by decide +kernel
theorem d_MO_plain_553 : decode prog_12_method_2_code 553 = .ok (.ireturn, 1) := by decide +kernel
theorem d_MO_plain_554 : decode prog_12_method_2_code 554 = .ok (.sipush 236, 3) := by decide +kernel
theorem d_MO_plain_557 : decode prog_12_method_2_code 557 = .ok (.ireturn, 1) := by decide +kernel
theorem d_MO_plain_558 : decode prog_12_method_2_code 558 = .ok (.sipush 242, 3) := by decide +kernel
theorem d_MO_plain_561 : decode prog_12_method_2_code 561 = .ok (.ireturn, 1) := by decide +kernel
theorem d_MO_plain_562 : decode prog_12_method_2_code 562 = .ok (.sipush 199, 3) := by decide +kernel
theorem d_MO_plain_565 : decode prog_12_method_2_code 565 = .ok (.ireturn, 1) := by decide +kernel
theorem d_MO_plain_566 : decode prog_12_method_2_code 566 = .ok (.sipush 216, 3) := by decide +kernel
theorem d_MO_plain_569 : decode prog_12_method_2_code 569 = .ok (.ireturn, 1) := by decide +kernel
theorem d_MO_plain_570 : decode prog_12_method_2_code 570 = .ok (.sipush 248, 3) := by decide +kernel
theorem d_MO_plain_573 : decode prog_12_method_2_code 573 = .ok (.ireturn, 1) := by decide +kernel
theorem d_MO_plain_574 : decode prog_12_method_2_code 574 = .ok (.sipush 197, 3) := by decide +kernel
theorem d_MO_plain_577 : decode prog_12_method_2_code 577 = .ok (.ireturn, 1) := by decide +kernel
theorem d_MO_plain_578 : decode prog_12_method_2_code 578 = .ok (.sipush 229, 3) := by decide +kernel
theorem d_MO_plain_581 : decode prog_12_method_2_code 581 = .ok (.ireturn, 1) := by decide +kernel
theorem d_MO_plain_582 : decode prog_12_method_2_code 582 = .ok (.sipush 916, 3) := by decide +kernel
theorem d_MO_plain_585 : decode prog_12_method_2_code 585 = .ok (.ireturn, 1) := by decide +kernel
theorem d_MO_plain_586 : decode prog_12_method_2_code 586 = .ok (.bipush 95, 2) := by decide +kernel
theorem d_MO_plain_588 : decode prog_12_method_2_code 588 = .ok (.ireturn, 1) := by decide +kernel
theorem d_MO_plain_589 : decode prog_12_method_2_code 589 = .ok (.sipush 934, 3) := by decide +kernel
theorem d_MO_plain_592 : decode prog_12_method_2_code 592 = .ok (.ireturn, 1) := by decide +kernel
theorem d_MO_plain_593 : decode prog_12_method_2_code 593 = .ok (.sipush 915, 3) := by decide +kernel
theorem d_MO_plain_596 : decode prog_12_method_2_code 596 = .ok (.ireturn, 1) := by decide +kernel
theorem d_MO_plain_597 : decode prog_12_method_2_code 597 = .ok (.sipush 923, 3) := by decide +kernel
theorem d_MO_plain_600 : decode prog_12_method_2_code 600 = .ok (.ireturn, 1) := by decide +kernel
theorem d_MO_plain_601 : decode prog_12_method_2_code 601 = .ok (.sipush 937, 3) := by decide +kernel
theorem d_MO_plain_604 : decode prog_12_method_2_code 604 = .ok (.ireturn, 1) := by decide +kernel
theorem d_MO_plain_605 : decode prog_12_method_2_code 605 = .ok (.sipush 928, 3) := by decide +kernel
theorem d_MO_plain_608 : decode prog_12_method_2_code 608 = .ok (.ireturn, 1) := by decide +kernel
theorem d_MO_plain_609 : decode prog_12_method_2_code 609 = .ok (.sipush 936, 3) := by decide +kernel
theorem d_MO_plain_612 : decode prog_12_method_2_code 612 = .ok (.ireturn, 1) := by decide +kernel
theorem d_MO_plain_613 : decode prog_12_method_2_code 613 = .ok (.sipush 931, 3) := by decide +kernel
theorem d_MO_plain_616 : decode prog_12_method_2_code 616 = .ok (.ireturn, 1) := by decide +kernel
theorem d_MO_plain_617 : decode prog_12_method_2_code 617 = .ok (.sipush 920, 3) := by decide +kernel
theorem d_MO_plain_620 : decode prog_12_method_2_code 620 = .ok (.ireturn, 1) := by decide +kernel
theorem d_MO_plain_621 : decode prog_12_method_2_code 621 = .ok (.sipush 926, 3) := by decide +kernel
theorem d_MO_plain_624 : decode prog_12_method_2_code 624 = .ok (.ireturn, 1) := by decide +kernel
theorem d_MO_plain_625 : decode prog_12_method_2_code 625 = .ok (.sipush 198, 3) := by decide +kernel
theorem d_MO_plain_628 : decode prog_12_method_2_code 628 = .ok (.ireturn, 1) := by decide +kernel
theorem d_MO_plain_629 : decode prog_12_method_2_code 629 = .ok (.sipush 230, 3) := by decide +kernel
theorem d_MO_plain_632 : decode prog_12_method_2_code 632 = .ok (.ireturn, 1) := by decide +kernel
theorem d_MO_plain_633 : decode prog_12_method_2_code 633 = .ok (.sipush 223, 3) := by decide +kernel
theorem d_MO_plain_636 : decode prog_12_method_2_code 636 = .ok (.ireturn, 1) := by decide +kernel
theorem d_MO_plain_637 : decode prog_12_method_2_code 637 = .ok (.sipush 201, 3) := by decide +kernel
theorem d_MO_plain_640 : decode prog_12_method_2_code 640 = .ok (.ireturn, 1) := by decide +kernel
theorem d_MO_plain_641 : decode prog_12_method_2_code 641 = .ok (.sipush 224, 3) := by decide +kernel
theorem d_MO_plain_644 : decode prog_12_method_2_code 644 = .ok (.ireturn, 1) := by decide +kernel
theorem d_MO_plain_645 : decode prog_12_method_2_code 645 = .ok (.iload_n 0, 1) := by decide +kernel
theorem d_MO_plain_646 : decode prog_12_method_2_code 646 = .ok (.invokestatic 117, 3) := by decide +kernel
theorem d_MO_plain_649 : decode prog_12_method_2_code 649 = .ok (.ireturn, 1) := by decide +kernel
theorem d_MO_upper_0 : decode prog_12_method_3_code 0 = .ok (.iload_n 0, 1) := by decide +kernel
theorem d_MO_upper_1 : decode prog_12_method_3_code 1 = .ok (.lookupswitch 155 #[(36, 107), (64, 111), (91, 115), (92, 119), (93, 123), (94, 127), (95, 131), (96, 135), (123, 139), (124, 143), (125, 147), (126, 151)], 107) := by decide +kernel
theorem d_MO_upper_108 : decode prog_12_method_3_code 108 = .ok (.sipush 164, 3) := by decide +kernel
theorem d_MO_upper_111 : decode prog_12_method_3_code 111 = .ok (.ireturn, 1) := by decide +kernel
theorem d_MO_upper_112 : decode prog_12_method_3_code 112 = .ok (.sipush 161, 3) := by decide +kernel
theorem d_MO_upper_115 : decode prog_12_method_3_code 115 = .ok (.ireturn, 1) := by decide +kernel
theorem d_MO_upper_116 : decode prog_12_method_3_code 116 = .ok (.sipush 196, 3) := by decide +kernel
theorem d_MO_upper_119 : decode prog_12_method_3_code 119 = .ok (.ireturn, 1) := by decide +kernel
theorem d_MO_upper_120 : decode prog_12_method_3_code 120 = .ok (.sipush 214, 3) := by decide +kernel
theorem d_MO_upper_123 : decode prog_12_method_3_code 123 = .ok (.ireturn, 1) := by decide +kernel
theorem d_MO_upper_124 : decode prog_12_method_3_code 124 = .ok (.sipush 209, 3) := by decide +kernel
theorem d_MO_upper_127 : decode prog_12_method_3_code 127 = .ok (.ireturn, 1) := by decide +kernel
theorem d_MO_upper_128 : decode prog_12_method_3_code 128 = .ok (.sipush 220, 3) := by decide +kernel
theorem d_MO_upper_131 : decode prog_12_method_3_code 131 = .ok (.ireturn, 1) := by decide +kernel
theorem d_MO_upper_132 : decode prog_12_method_3_code 132 = .ok (.sipush 167, 3) := by decide +kernel
theorem d_MO_upper_135 : decode prog_12_method_3_code 135 = .ok (.ireturn, 1) := by decide +kernel
theorem d_MO_upper_136 : decode prog_12_method_3_code 136 = .ok (.sipush 191, 3) := by decide +kernel
theorem d_MO_upper_139 : decode prog_12_method_3_code 139 = .ok (.ireturn, 1) := by decide +kernel
theorem d_MO_upper_140 : decode prog_12_method_3_code 140 = .ok (.sipush 228, 3) := by decide +kernel
theorem d_MO_upper_143 : decode prog_12_method_3_code 143 = .ok (.ireturn, 1) := by decide +kernel
theorem d_MO_upper_144 : decode prog_12_method_3_code 144 = .ok (.sipush 246, 3) := by decide +kernel
theorem d_MO_upper_147 : decode prog_12_method_3_code 147 = .ok (.ireturn, 1) := by decide +kernel
theorem d_MO_upper_148 : decode prog_12_method_3_code 148 = .ok (.sipush 241, 3) := by decide +kernel
theorem d_MO_upper_151 : decode prog_12_method_3_code 151 = .ok (.ireturn, 1) := by decide +kernel
theorem d_MO_upper_152 : decode prog_12_method_3_code 152 = .ok (.sipush 252, 3) := by decide +kernel
theorem d_MO_upper_155 : decode prog_12_method_3_code 155 = .ok (.ireturn, 1) := by decide +kernel
theorem d_MO_upper_156 : decode prog_12_method_3_code 156 = .ok (.iload_n 0, 1) := by decide +kernel
theorem d_MO_upper_157 : decode prog_12_method_3_code 157 = .ok (.ireturn, 1) := by decide +kernel
theorem d_MO_escaped_0 : decode prog_12_method_4_code 0 = .ok (.iload_n 0, 1) := by decide +kernel
theorem d_MO_escaped_1 : decode prog_12_method_4_code 1 = .ok (.lookupswitch 122 #[(10, 91), (20, 94), (40, 97), (41, 100), (47, 103), (60, 106), (61, 109), (62, 112), (64, 115), (101, 118)], 91) := by decide +kernel
theorem d_MO_escaped_92 : decode prog_12_method_4_code 92 = .ok (.bipush 12, 2) := by decide +kernel
theorem d_MO_escaped_94 : decode prog_12_method_4_code 94 = .ok (.ireturn, 1) := by decide +kernel
theorem d_MO_escaped_95 : decode prog_12_method_4_code 95 = .ok (.bipush 94, 2) := by decide +kernel
theorem d_MO_escaped_97 : decode prog_12_method_4_code 97 = .ok (.ireturn, 1) := by decide +kernel
theorem d_MO_escaped_98 : decode prog_12_method_4_code 98 = .ok (.bipush 123, 2) := by decide +kernel
theorem d_MO_escaped_100 : decode prog_12_method_4_code 100 = .ok (.ireturn, 1) := by decide +kernel
theorem d_MO_escaped_101 : decode prog_12_method_4_code 101 = .ok (.bipush 125, 2) := by decide +kernel
theorem d_MO_escaped_103 : decode prog_12_method_4_code 103 = .ok (.ireturn, 1) := by decide +kernel
theorem d_MO_escaped_104 : decode prog_12_method_4_code 104 = .ok (.bipush 92, 2) := by decide +kernel
theorem d_MO_escaped_106 : decode prog_12_method_4_code 106 = .ok (.ireturn, 1) := by decide +kernel
theorem d_MO_escaped_107 : decode prog_12_method_4_code 107 = .ok (.bipush 91, 2) := by decide +kernel
theorem d_MO_escaped_109 : decode prog_12_method_4_code 109 = .ok (.ireturn, 1) := by decide +kernel
theorem d_MO_escaped_110 : decode prog_12_method_4_code 110 = .ok (.bipush 126, 2) := by decide +kernel
theorem d_MO_escaped_112 : decode prog_12_method_4_code 112 = .ok (.ireturn, 1) := by decide +kernel
theorem d_MO_escaped_113 : decode prog_12_method_4_code 113 = .ok (.bipush 93, 2) := by decide +kernel
theorem d_MO_escaped_115 : decode prog_12_method_4_code 115 = .ok (.ireturn, 1) := by decide +kernel
theorem d_MO_escaped_116 : decode prog_12_method_4_code 116 = .ok (.bipush 124, 2) := by decide +kernel
theorem d_MO_escaped_118 : decode prog_12_method_4_code 118 = .ok (.ireturn, 1) := by decide +kernel
theorem d_MO_escaped_119 : decode prog_12_method_4_code 119 = .ok (.sipush 8364, 3) := by decide +kernel
theorem d_MO_escaped_122 : decode prog_12_method_4_code 122 = .ok (.ireturn, 1) := by decide +kernel
theorem d_MO_escaped_123 : decode prog_12_method_4_code 123 = .ok (.iconst (-1), 1) := by decide +kernel
theorem d_MO_escaped_124 : decode prog_12_method_4_code 124 = .ok (.ireturn, 1) := by decide +kernel
theorem d_MO_encode_0 : decode prog_12_method_5_code 0 = .ok (.iconst 0, 1) := by decide +kernel
theorem d_MO_encode_1 : decode prog_12_method_5_code 1 = .ok (.istore_n 2, 1) := by decide +kernel
theorem d_MO_encode_2 : decode prog_12_method_5_code 2 = .ok (.iload_n 2, 1) := by decide +kernel
theorem d_MO_encode_3 : decode prog_12_method_5_code 3 = .ok (.sipush 128, 3) := by decide +kernel
theorem d_MO_encode_6 : decode prog_12_method_5_code 6 = .ok (.if_icmp .ge 88, 3) := by decide +kernel
theorem d_MO_encode_9 : decode prog_12_method_5_code 9 = .ok (.iload_n 2, 1) := by decide +kernel
theorem d_MO_encode_10 : decode prog_12_method_5_code 10 = .ok (.bipush 27, 2) := by decide +kernel
theorem d_MO_encode_12 : decode prog_12_method_5_code 12 = .ok (.if_icmp .eq 33, 3) := by decide +kernel
theorem d_MO_encode_15 : decode prog_12_method_5_code 15 = .ok (.iload_n 2, 1) := by decide +kernel
theorem d_MO_encode_16 : decode prog_12_method_5_code 16 = .ok (.invokestatic 121, 3) := by decide +kernel
theorem d_MO_encode_19 : decode prog_12_method_5_code 19 = .ok (.iload_n 1, 1) := by decide +kernel
theorem d_MO_encode_20 : decode prog_12_method_5_code 20 = .ok (.if_icmp .ne 25, 3) := by decide +kernel
theorem d_MO_encode_23 : decode prog_12_method_5_code 23 = .ok (.aload_n 0, 1) := by decide +kernel
theorem d_MO_encode_24 : decode prog_12_method_5_code 24 = .ok (.getfield 13, 3) := by decide +kernel
theorem d_MO_encode_27 : decode prog_12_method_5_code 27 = .ok (.aload_n 0, 1) := by decide +kernel
theorem d_MO_encode_28 : decode prog_12_method_5_code 28 = .ok (.getfield 124, 3) := by decide +kernel
theorem d_MO_encode_31 : decode prog_12_method_5_code 31 = .ok (.iload_n 2, 1) := by decide +kernel
theorem d_MO_encode_32 : decode prog_12_method_5_code 32 = .ok (.iastore, 1) := by decide +kernel
theorem d_MO_encode_33 : decode prog_12_method_5_code 33 = .ok (.aload_n 0, 1) := by decide +kernel
theorem d_MO_encode_34 : decode prog_12_method_5_code 34 = .ok (.dup, 1) := by decide +kernel
theorem d_MO_encode_35 : decode prog_12_method_5_code 35 = .ok (.getfield 124, 3) := by decide +kernel
theorem d_MO_encode_38 : decode prog_12_method_5_code 38 = .ok (.iconst 1, 1) := by decide +kernel
theorem d_MO_encode_39 : decode prog_12_method_5_code 39 = .ok (.iadd, 1) := by decide +kernel
theorem d_MO_encode_40 : decode prog_12_method_5_code 40 = .ok (.putfield 124, 3) := by decide +kernel
theorem d_MO_encode_43 : decode prog_12_method_5_code 43 = .ok (.iconst 1, 1) := by decide +kernel
theorem d_MO_encode_44 : decode prog_12_method_5_code 44 = .ok (.ireturn, 1) := by decide +kernel
theorem d_MO_encode_45 : decode prog_12_method_5_code 45 = .ok (.iload_n 2, 1) := by decide +kernel
theorem d_MO_encode_46 : decode prog_12_method_5_code 46 = .ok (.invokestatic 128, 3) := by decide +kernel
theorem d_MO_encode_49 : decode prog_12_method_5_code 49 = .ok (.iload_n 1, 1) := by decide +kernel
theorem d_MO_encode_50 : decode prog_12_method_5_code 50 = .ok (.if_icmp .ne 38, 3) := by decide +kernel
theorem d_MO_encode_53 : decode prog_12_method_5_code 53 = .ok (.aload_n 0, 1) := by decide +kernel
theorem d_MO_encode_54 : decode prog_12_method_5_code 54 = .ok (.getfield 13, 3) := by decide +kernel
theorem d_MO_encode_57 : decode prog_12_method_5_code 57 = .ok (.aload_n 0, 1) := by decide +kernel
theorem d_MO_encode_58 : decode prog_12_method_5_code 58 = .ok (.getfield 124, 3) := by decide +kernel
theorem d_MO_encode_61 : decode prog_12_method_5_code 61 = .ok (.bipush 27, 2) := by decide +kernel
theorem d_MO_encode_63 : decode prog_12_method_5_code 63 = .ok (.iastore, 1) := by decide +kernel
theorem d_MO_encode_64 : decode prog_12_method_5_code 64 = .ok (.aload_n 0, 1) := by decide +kernel
theorem d_MO_encode_65 : decode prog_12_method_5_code 65 = .ok (.getfield 13, 3) := by decide +kernel
theorem d_MO_encode_68 : decode prog_12_method_5_code 68 = .ok (.aload_n 0, 1) := by decide +kernel
theorem d_MO_encode_69 : decode prog_12_method_5_code 69 = .ok (.getfield 124, 3) := by decide +kernel
theorem d_MO_encode_72 : decode prog_12_method_5_code 72 = .ok (.iconst 1, 1) := by decide +kernel
theorem d_MO_encode_73 : decode prog_12_method_5_code 73 = .ok (.iadd, 1) := by decide +kernel
theorem d_MO_encode_74 : decode prog_12_method_5_code 74 = .ok (.iload_n 2, 1) := by decide +kernel
theorem d_MO_encode_75 : decode prog_12_method_5_code 75 = .ok (.iastore, 1) := by decide +kernel
theorem d_MO_encode_76 : decode prog_12_method_5_code 76 = .ok (.aload_n 0, 1) := by decide +kernel
theorem d_MO_encode_77 : decode prog_12_method_5_code 77 = .ok (.aload_n 0, 1) := by decide +kernel
theorem d_MO_encode_78 : decode prog_12_method_5_code 78 = .ok (.getfield 124, 3) := by decide +kernel
theorem d_MO_encode_81 : decode prog_12_method_5_code 81 = .ok (.iconst 2, 1) := by decide +kernel
theorem d_MO_encode_82 : decode prog_12_method_5_code 82 = .ok (.iadd, 1) := by decide +kernel
theorem d_MO_encode_83 : decode prog_12_method_5_code 83 = .ok (.putfield 124, 3) := by decide +kernel
theorem d_MO_encode_86 : decode prog_12_method_5_code 86 = .ok (.iconst 1, 1) := by decide +kernel
theorem d_MO_encode_87 : decode prog_12_method_5_code 87 = .ok (.ireturn, 1) := by decide +kernel
theorem d_MO_encode_88 : decode prog_12_method_5_code 88 = .ok (.iinc 2 1, 3) := by decide +kernel
theorem d_MO_encode_91 : decode prog_12_method_5_code 91 = .ok (.goto (-89), 3) := by decide +kernel
theorem d_MO_encode_94 : decode prog_12_method_5_code 94 = .ok (.iconst 0, 1) := by decide +kernel
theorem d_MO_encode_95 : decode prog_12_method_5_code 95 = .ok (.ireturn, 1) := by decide +kernel
theorem d_MO_put_0 : decode prog_12_method_6_code 0 = .ok (.aload_n 0, 1) := by decide +kernel
theorem d_MO_put_1 : decode prog_12_method_6_code 1 = .ok (.getfield 39, 3) := by decide +kernel
theorem d_MO_put_4 : decode prog_12_method_6_code 4 = .ok (.aload_n 0, 1) := by decide +kernel
theorem d_MO_put_5 : decode prog_12_method_6_code 5 = .ok (.getfield 131, 3) := by decide +kernel
theorem d_MO_put_8 : decode prog_12_method_6_code 8 = .ok (.iload_n 1, 1) := by decide +kernel
theorem d_MO_put_9 : decode prog_12_method_6_code 9 = .ok (.iastore, 1) := by decide +kernel
theorem d_MO_put_10 : decode prog_12_method_6_code 10 = .ok (.aload_n 0, 1) := by decide +kernel
theorem d_MO_put_11 : decode prog_12_method_6_code 11 = .ok (.dup, 1) := by decide +kernel
theorem d_MO_put_12 : decode prog_12_method_6_code 12 = .ok (.getfield 131, 3) := by decide +kernel
theorem d_MO_put_15 : decode prog_12_method_6_code 15 = .ok (.iconst 1, 1) := by decide +kernel
theorem d_MO_put_16 : decode prog_12_method_6_code 16 = .ok (.iadd, 1) := by decide +kernel
theorem d_MO_put_17 : decode prog_12_method_6_code 17 = .ok (.putfield 131, 3) := by decide +kernel
theorem d_MO_put_20 : decode prog_12_method_6_code 20 = .ok (.return_, 1) := by decide +kernel
theorem d_MO_power_0 : decode prog_12_method_7_code 0 = .ok (.lconst 1, 1) := by decide +kernel
theorem d_MO_power_1 : decode prog_12_method_7_code 1 = .ok (.lstore_n 1, 1) := by decide +kernel
theorem d_MO_power_2 : decode prog_12_method_7_code 2 = .ok (.iconst 0, 1) := by decide +kernel
theorem d_MO_power_3 : decode prog_12_method_7_code 3 = .ok (.istore_n 3, 1) := by decide +kernel
theorem d_MO_power_4 : decode prog_12_method_7_code 4 = .ok (.iload_n 3, 1) := by decide +kernel
theorem d_MO_power_5 : decode prog_12_method_7_code 5 = .ok (.iload_n 0, 1) := by decide +kernel
theorem d_MO_power_6 : decode prog_12_method_7_code 6 = .ok (.if_icmp .ge 15, 3) := by decide +kernel
theorem d_MO_power_9 : decode prog_12_method_7_code 9 = .ok (.lload_n 1, 1) := by decide +kernel
theorem d_MO_power_10 : decode prog_12_method_7_code 10 = .ok (.ldc2_w 134, 3) := by decide +kernel
theorem d_MO_power_13 : decode prog_12_method_7_code 13 = .ok (.lmul, 1) := by decide +kernel
theorem d_MO_power_14 : decode prog_12_method_7_code 14 = .ok (.lstore_n 1, 1) := by decide +kernel
theorem d_MO_power_15 : decode prog_12_method_7_code 15 = .ok (.iinc 3 1, 3) := by decide +kernel
theorem d_MO_power_18 : decode prog_12_method_7_code 18 = .ok (.goto (-14), 3) := by decide +kernel
theorem d_MO_power_21 : decode prog_12_method_7_code 21 = .ok (.lload_n 1, 1) := by decide +kernel
theorem d_MO_power_22 : decode prog_12_method_7_code 22 = .ok (.lreturn, 1) := by decide +kernel
theorem d_MO_putDigits_0 : decode prog_12_method_8_code 0 = .ok (.iload_n 3, 1) := by decide +kernel
theorem d_MO_putDigits_1 : decode prog_12_method_8_code 1 = .ok (.iconst 1, 1) := by decide +kernel
theorem d_MO_putDigits_2 : decode prog_12_method_8_code 2 = .ok (.isub, 1) := by decide +kernel
theorem d_MO_putDigits_3 : decode prog_12_method_8_code 3 = .ok (.istore 4, 2) := by decide +kernel
theorem d_MO_putDigits_5 : decode prog_12_method_8_code 5 = .ok (.iload 4, 2) := by decide +kernel
theorem d_MO_putDigits_7 : decode prog_12_method_8_code 7 = .ok (.ifCond .lt 64, 3) := by decide +kernel
theorem d_MO_putDigits_10 : decode prog_12_method_8_code 10 = .ok (.lload_n 1, 1) := by decide +kernel
theorem d_MO_putDigits_11 : decode prog_12_method_8_code 11 = .ok (.iload 4, 2) := by decide +kernel
theorem d_MO_putDigits_13 : decode prog_12_method_8_code 13 = .ok (.invokestatic 136, 3) := by decide +kernel
theorem d_MO_putDigits_16 : decode prog_12_method_8_code 16 = .ok (.ldiv, 1) := by decide +kernel
theorem d_MO_putDigits_17 : decode prog_12_method_8_code 17 = .ok (.ldc2_w 134, 3) := by decide +kernel
theorem d_MO_putDigits_20 : decode prog_12_method_8_code 20 = .ok (.lrem, 1) := by decide +kernel
theorem d_MO_putDigits_21 : decode prog_12_method_8_code 21 = .ok (.l2i, 1) := by decide +kernel
theorem d_MO_putDigits_22 : decode prog_12_method_8_code 22 = .ok (.istore 5, 2) := by decide +kernel
theorem d_MO_putDigits_24 : decode prog_12_method_8_code 24 = .ok (.iload 4, 2) := by decide +kernel
theorem d_MO_putDigits_26 : decode prog_12_method_8_code 26 = .ok (.ifCond .ne 8, 3) := by decide +kernel
theorem d_MO_putDigits_29 : decode prog_12_method_8_code 29 = .ok (.bipush 15, 2) := by decide +kernel
theorem d_MO_putDigits_31 : decode prog_12_method_8_code 31 = .ok (.goto 17, 3) := by decide +kernel
theorem d_MO_putDigits_34 : decode prog_12_method_8_code 34 = .ok (.lload_n 1, 1) := by decide +kernel
theorem d_MO_putDigits_35 : decode prog_12_method_8_code 35 = .ok (.iload 4, 2) := by decide +kernel
theorem d_MO_putDigits_37 : decode prog_12_method_8_code 37 = .ok (.iconst 1, 1) := by decide +kernel
theorem d_MO_putDigits_38 : decode prog_12_method_8_code 38 = .ok (.isub, 1) := by decide +kernel
theorem d_MO_putDigits_39 : decode prog_12_method_8_code 39 = .ok (.invokestatic 136, 3) := by decide +kernel
theorem d_MO_putDigits_42 : decode prog_12_method_8_code 42 = .ok (.ldiv, 1) := by decide +kernel
theorem d_MO_putDigits_43 : decode prog_12_method_8_code 43 = .ok (.ldc2_w 134, 3) := by decide +kernel
theorem d_MO_putDigits_46 : decode prog_12_method_8_code 46 = .ok (.lrem, 1) := by decide +kernel
theorem d_MO_putDigits_47 : decode prog_12_method_8_code 47 = .ok (.l2i, 1) := by decide +kernel
theorem d_MO_putDigits_48 : decode prog_12_method_8_code 48 = .ok (.istore 6, 2) := by decide +kernel
theorem d_MO_putDigits_50 : decode prog_12_method_8_code 50 = .ok (.aload_n 0, 1) := by decide +kernel
theorem d_MO_putDigits_51 : decode prog_12_method_8_code 51 = .ok (.iload 5, 2) := by decide +kernel
theorem d_MO_putDigits_53 : decode prog_12_method_8_code 53 = .ok (.bipush 16, 2) := by decide +kernel
theorem d_MO_putDigits_55 : decode prog_12_method_8_code 55 = .ok (.iload 6, 2) := by decide +kernel
theorem d_MO_putDigits_57 : decode prog_12_method_8_code 57 = .ok (.imul, 1) := by decide +kernel
theorem d_MO_putDigits_58 : decode prog_12_method_8_code 58 = .ok (.iadd, 1) := by decide +kernel
theorem d_MO_putDigits_59 : decode prog_12_method_8_code 59 = .ok (.invokevirtual 140, 3) := by decide +kernel
theorem d_MO_putDigits_62 : decode prog_12_method_8_code 62 = .ok (.iload 4, 2) := by decide +kernel
theorem d_MO_putDigits_64 : decode prog_12_method_8_code 64 = .ok (.iconst 2, 1) := by decide +kernel
theorem d_MO_putDigits_65 : decode prog_12_method_8_code 65 = .ok (.isub, 1) := by decide +kernel
theorem d_MO_putDigits_66 : decode prog_12_method_8_code 66 = .ok (.istore 4, 2) := by decide +kernel
theorem d_MO_putDigits_68 : decode prog_12_method_8_code 68 = .ok (.goto (-63), 3) := by decide +kernel
theorem d_MO_putDigits_71 : decode prog_12_method_8_code 71 = .ok (.return_, 1) := by decide +kernel
theorem d_MO_putAddress_0 : decode prog_12_method_9_code 0 = .ok (.iconst 1, 1) := by decide +kernel
theorem d_MO_putAddress_1 : decode prog_12_method_9_code 1 = .ok (.istore_n 3, 1) := by decide +kernel
theorem d_MO_putAddress_2 : decode prog_12_method_9_code 2 = .ok (.iload_n 3, 1) := by decide +kernel
theorem d_MO_putAddress_3 : decode prog_12_method_9_code 3 = .ok (.bipush 12, 2) := by decide +kernel
theorem d_MO_putAddress_5 : decode prog_12_method_9_code 5 = .ok (.if_icmp .ge 18, 3) := by decide +kernel
theorem d_MO_putAddress_8 : decode prog_12_method_9_code 8 = .ok (.iload_n 3, 1) := by decide +kernel
theorem d_MO_putAddress_9 : decode prog_12_method_9_code 9 = .ok (.invokestatic 136, 3) := by decide +kernel
theorem d_MO_putAddress_12 : decode prog_12_method_9_code 12 = .ok (.lload_n 1, 1) := by decide +kernel
theorem d_MO_putAddress_13 : decode prog_12_method_9_code 13 = .ok (.lcmp, 1) := by decide +kernel
theorem d_MO_putAddress_14 : decode prog_12_method_9_code 14 = .ok (.ifCond .gt 9, 3) := by decide +kernel
theorem d_MO_putAddress_17 : decode prog_12_method_9_code 17 = .ok (.iinc 3 1, 3) := by decide +kernel
theorem d_MO_putAddress_20 : decode prog_12_method_9_code 20 = .ok (.goto (-18), 3) := by decide +kernel
theorem d_MO_putAddress_23 : decode prog_12_method_9_code 23 = .ok (.aload_n 0, 1) := by decide +kernel
theorem d_MO_putAddress_24 : decode prog_12_method_9_code 24 = .ok (.iload_n 3, 1) := by decide +kernel
theorem d_MO_putAddress_25 : decode prog_12_method_9_code 25 = .ok (.invokevirtual 140, 3) := by decide +kernel
theorem d_MO_putAddress_28 : decode prog_12_method_9_code 28 = .ok (.aload_n 0, 1) := by decide +kernel
theorem d_MO_putAddress_29 : decode prog_12_method_9_code 29 = .ok (.sipush 145, 3) := by decide +kernel
theorem d_MO_putAddress_32 : decode prog_12_method_9_code 32 = .ok (.invokevirtual 140, 3) := by decide +kernel
theorem d_MO_putAddress_35 : decode prog_12_method_9_code 35 = .ok (.aload_n 0, 1) := by decide +kernel
theorem d_MO_putAddress_36 : decode prog_12_method_9_code 36 = .ok (.lload_n 1, 1) := by decide +kernel
theorem d_MO_putAddress_37 : decode prog_12_method_9_code 37 = .ok (.iload_n 3, 1) := by decide +kernel
theorem d_MO_putAddress_38 : decode prog_12_method_9_code 38 = .ok (.invokevirtual 144, 3) := by decide +kernel
theorem d_MO_putAddress_41 : decode prog_12_method_9_code 41 = .ok (.return_, 1) := by decide +kernel
theorem d_MO_bytesFor_0 : decode prog_12_method_10_code 0 = .ok (.bipush 7, 2) := by decide +kernel
theorem d_MO_bytesFor_2 : decode prog_12_method_10_code 2 = .ok (.iload_n 0, 1) := by decide +kernel
theorem d_MO_bytesFor_3 : decode prog_12_method_10_code 3 = .ok (.imul, 1) := by decide +kernel
theorem d_MO_bytesFor_4 : decode prog_12_method_10_code 4 = .ok (.bipush 7, 2) := by decide +kernel
theorem d_MO_bytesFor_6 : decode prog_12_method_10_code 6 = .ok (.iadd, 1) := by decide +kernel
theorem d_MO_bytesFor_7 : decode prog_12_method_10_code 7 = .ok (.bipush 8, 2) := by decide +kernel
theorem d_MO_bytesFor_9 : decode prog_12_method_10_code 9 = .ok (.idiv, 1) := by decide +kernel
theorem d_MO_bytesFor_10 : decode prog_12_method_10_code 10 = .ok (.ireturn, 1) := by decide +kernel
theorem d_MO_putData_0 : decode prog_12_method_11_code 0 = .ok (.iload_n 3, 1) := by decide +kernel
theorem d_MO_putData_1 : decode prog_12_method_11_code 1 = .ok (.ifCond .ge 7, 3) := by decide +kernel
theorem d_MO_putData_4 : decode prog_12_method_11_code 4 = .ok (.iload_n 2, 1) := by decide +kernel
theorem d_MO_putData_5 : decode prog_12_method_11_code 5 = .ok (.goto 7, 3) := by decide +kernel
theorem d_MO_putData_8 : decode prog_12_method_11_code 8 = .ok (.bipush 7, 2) := by decide +kernel
theorem d_MO_putData_10 : decode prog_12_method_11_code 10 = .ok (.iload_n 2, 1) := by decide +kernel
theorem d_MO_putData_11 : decode prog_12_method_11_code 11 = .ok (.iadd, 1) := by decide +kernel
theorem d_MO_putData_12 : decode prog_12_method_11_code 12 = .ok (.istore 6, 2) := by decide +kernel
theorem d_MO_putData_14 : decode prog_12_method_11_code 14 = .ok (.aload_n 0, 1) := by decide +kernel
theorem d_MO_putData_15 : decode prog_12_method_11_code 15 = .ok (.iload 6, 2) := by decide +kernel
theorem d_MO_putData_17 : decode prog_12_method_11_code 17 = .ok (.invokevirtual 140, 3) := by decide +kernel
theorem d_MO_putData_20 : decode prog_12_method_11_code 20 = .ok (.aload_n 0, 1) := by decide +kernel
theorem d_MO_putData_21 : decode prog_12_method_11_code 21 = .ok (.getfield 131, 3) := by decide +kernel
theorem d_MO_putData_24 : decode prog_12_method_11_code 24 = .ok (.istore 7, 2) := by decide +kernel
theorem d_MO_putData_26 : decode prog_12_method_11_code 26 = .ok (.iconst 0, 1) := by decide +kernel
theorem d_MO_putData_27 : decode prog_12_method_11_code 27 = .ok (.istore 8, 2) := by decide +kernel
theorem d_MO_putData_29 : decode prog_12_method_11_code 29 = .ok (.iload 8, 2) := by decide +kernel
theorem d_MO_putData_31 : decode prog_12_method_11_code 31 = .ok (.iload 6, 2) := by decide +kernel
theorem d_MO_putData_33 : decode prog_12_method_11_code 33 = .ok (.invokestatic 148, 3) := by decide +kernel
theorem d_MO_putData_36 : decode prog_12_method_11_code 36 = .ok (.if_icmp .ge 14, 3) := by decide +kernel
theorem d_MO_putData_39 : decode prog_12_method_11_code 39 = .ok (.aload_n 0, 1) := by decide +kernel
theorem d_MO_putData_40 : decode prog_12_method_11_code 40 = .ok (.iconst 0, 1) := by decide +kernel
theorem d_MO_putData_41 : decode prog_12_method_11_code 41 = .ok (.invokevirtual 140, 3) := by decide +kernel
theorem d_MO_putData_44 : decode prog_12_method_11_code 44 = .ok (.iinc 8 1, 3) := by decide +kernel
theorem d_MO_putData_47 : decode prog_12_method_11_code 47 = .ok (.goto (-18), 3) := by decide +kernel
theorem d_MO_putData_50 : decode prog_12_method_11_code 50 = .ok (.iload_n 3, 1) := by decide +kernel
theorem d_MO_putData_51 : decode prog_12_method_11_code 51 = .ok (.ifCond .lt 53, 3) := by decide +kernel
theorem d_MO_putData_54 : decode prog_12_method_11_code 54 = .ok (.aload_n 0, 1) := by decide +kernel
theorem d_MO_putData_55 : decode prog_12_method_11_code 55 = .ok (.getfield 39, 3) := by decide +kernel
theorem d_MO_putData_58 : decode prog_12_method_11_code 58 = .ok (.iload 7, 2) := by decide +kernel
theorem d_MO_putData_60 : decode prog_12_method_11_code 60 = .ok (.iconst 5, 1) := by decide +kernel
theorem d_MO_putData_61 : decode prog_12_method_11_code 61 = .ok (.iastore, 1) := by decide +kernel
theorem d_MO_putData_62 : decode prog_12_method_11_code 62 = .ok (.aload_n 0, 1) := by decide +kernel
theorem d_MO_putData_63 : decode prog_12_method_11_code 63 = .ok (.getfield 39, 3) := by decide +kernel
theorem d_MO_putData_66 : decode prog_12_method_11_code 66 = .ok (.iload 7, 2) := by decide +kernel
theorem d_MO_putData_68 : decode prog_12_method_11_code 68 = .ok (.iconst 2, 1) := by decide +kernel
theorem d_MO_putData_69 : decode prog_12_method_11_code 69 = .ok (.iadd, 1) := by decide +kernel
theorem d_MO_putData_70 : decode prog_12_method_11_code 70 = .ok (.iconst 3, 1) := by decide +kernel
theorem d_MO_putData_71 : decode prog_12_method_11_code 71 = .ok (.iastore, 1) := by decide +kernel
theorem d_MO_putData_72 : decode prog_12_method_11_code 72 = .ok (.aload_n 0, 1) := by decide +kernel
theorem d_MO_putData_73 : decode prog_12_method_11_code 73 = .ok (.getfield 39, 3) := by decide +kernel
theorem d_MO_putData_76 : decode prog_12_method_11_code 76 = .ok (.iload 7, 2) := by decide +kernel
theorem d_MO_putData_78 : decode prog_12_method_11_code 78 = .ok (.iconst 3, 1) := by decide +kernel
theorem d_MO_putData_79 : decode prog_12_method_11_code 79 = .ok (.iadd, 1) := by decide +kernel
theorem d_MO_putData_80 : decode prog_12_method_11_code 80 = .ok (.iload_n 3, 1) := by decide +kernel
theorem d_MO_putData_81 : decode prog_12_method_11_code 81 = .ok (.iastore, 1) := by decide +kernel
theorem d_MO_putData_82 : decode prog_12_method_11_code 82 = .ok (.aload_n 0, 1) := by decide +kernel
theorem d_MO_putData_83 : decode prog_12_method_11_code 83 = .ok (.getfield 39, 3) := by decide +kernel
theorem d_MO_putData_86 : decode prog_12_method_11_code 86 = .ok (.iload 7, 2) := by decide +kernel
theorem d_MO_putData_88 : decode prog_12_method_11_code 88 = .ok (.iconst 4, 1) := by decide +kernel
theorem d_MO_putData_89 : decode prog_12_method_11_code 89 = .ok (.iadd, 1) := by decide +kernel
theorem d_MO_putData_90 : decode prog_12_method_11_code 90 = .ok (.iload 4, 2) := by decide +kernel
theorem d_MO_putData_92 : decode prog_12_method_11_code 92 = .ok (.iastore, 1) := by decide +kernel
theorem d_MO_putData_93 : decode prog_12_method_11_code 93 = .ok (.aload_n 0, 1) := by decide +kernel
theorem d_MO_putData_94 : decode prog_12_method_11_code 94 = .ok (.getfield 39, 3) := by decide +kernel
theorem d_MO_putData_97 : decode prog_12_method_11_code 97 = .ok (.iload 7, 2) := by decide +kernel
theorem d_MO_putData_99 : decode prog_12_method_11_code 99 = .ok (.iconst 5, 1) := by decide +kernel
theorem d_MO_putData_100 : decode prog_12_method_11_code 100 = .ok (.iadd, 1) := by decide +kernel
theorem d_MO_putData_101 : decode prog_12_method_11_code 101 = .ok (.iload 5, 2) := by decide +kernel
theorem d_MO_putData_103 : decode prog_12_method_11_code 103 = .ok (.iastore, 1) := by decide +kernel
theorem d_MO_putData_104 : decode prog_12_method_11_code 104 = .ok (.iload_n 3, 1) := by decide +kernel
theorem d_MO_putData_105 : decode prog_12_method_11_code 105 = .ok (.ifCond .ge 7, 3) := by decide +kernel
theorem d_MO_putData_108 : decode prog_12_method_11_code 108 = .ok (.iconst 0, 1) := by decide +kernel
theorem d_MO_putData_109 : decode prog_12_method_11_code 109 = .ok (.goto 5, 3) := by decide +kernel
theorem d_MO_putData_112 : decode prog_12_method_11_code 112 = .ok (.bipush 49, 2) := by decide +kernel
theorem d_MO_putData_114 : decode prog_12_method_11_code 114 = .ok (.istore 8, 2) := by decide +kernel
theorem d_MO_putData_116 : decode prog_12_method_11_code 116 = .ok (.iconst 0, 1) := by decide +kernel
theorem d_MO_putData_117 : decode prog_12_method_11_code 117 = .ok (.istore 9, 2) := by decide +kernel
theorem d_MO_putData_119 : decode prog_12_method_11_code 119 = .ok (.iload 9, 2) := by decide +kernel
theorem d_MO_putData_121 : decode prog_12_method_11_code 121 = .ok (.iload_n 2, 1) := by decide +kernel
theorem d_MO_putData_122 : decode prog_12_method_11_code 122 = .ok (.if_icmp .ge 85, 3) := by decide +kernel
theorem d_MO_putData_125 : decode prog_12_method_11_code 125 = .ok (.iconst 0, 1) := by decide +kernel
theorem d_MO_putData_126 : decode prog_12_method_11_code 126 = .ok (.istore 10, 2) := by decide +kernel
theorem d_MO_putData_128 : decode prog_12_method_11_code 128 = .ok (.iload 10, 2) := by decide +kernel
theorem d_MO_putData_130 : decode prog_12_method_11_code 130 = .ok (.bipush 7, 2) := by decide +kernel
theorem d_MO_putData_132 : decode prog_12_method_11_code 132 = .ok (.if_icmp .ge 69, 3) := by decide +kernel
theorem d_MO_putData_135 : decode prog_12_method_11_code 135 = .ok (.iload 8, 2) := by decide +kernel
theorem d_MO_putData_137 : decode prog_12_method_11_code 137 = .ok (.bipush 7, 2) := by decide +kernel
theorem d_MO_putData_139 : decode prog_12_method_11_code 139 = .ok (.iload 9, 2) := by decide +kernel
theorem d_MO_putData_141 : decode prog_12_method_11_code 141 = .ok (.imul, 1) := by decide +kernel
theorem d_MO_putData_142 : decode prog_12_method_11_code 142 = .ok (.iadd, 1) := by decide +kernel
theorem d_MO_putData_143 : decode prog_12_method_11_code 143 = .ok (.iload 10, 2) := by decide +kernel
theorem d_MO_putData_145 : decode prog_12_method_11_code 145 = .ok (.iadd, 1) := by decide +kernel
theorem d_MO_putData_146 : decode prog_12_method_11_code 146 = .ok (.istore 11, 2) := by decide +kernel
theorem d_MO_putData_148 : decode prog_12_method_11_code 148 = .ok (.aload_n 0, 1) := by decide +kernel
theorem d_MO_putData_149 : decode prog_12_method_11_code 149 = .ok (.getfield 39, 3) := by decide +kernel
theorem d_MO_putData_152 : decode prog_12_method_11_code 152 = .ok (.iload 7, 2) := by decide +kernel
theorem d_MO_putData_154 : decode prog_12_method_11_code 154 = .ok (.iload 11, 2) := by decide +kernel
theorem d_MO_putData_156 : decode prog_12_method_11_code 156 = .ok (.bipush 8, 2) := by decide +kernel
theorem d_MO_putData_158 : decode prog_12_method_11_code 158 = .ok (.idiv, 1) := by decide +kernel
theorem d_MO_putData_159 : decode prog_12_method_11_code 159 = .ok (.iadd, 1) := by decide +kernel
theorem d_MO_putData_160 : decode prog_12_method_11_code 160 = .ok (.aload_n 0, 1) := by decide +kernel
theorem d_MO_putData_161 : decode prog_12_method_11_code 161 = .ok (.getfield 39, 3) := by decide +kernel
theorem d_MO_putData_164 : decode prog_12_method_11_code 164 = .ok (.iload 7, 2) := by decide +kernel
theorem d_MO_putData_166 : decode prog_12_method_11_code 166 = .ok (.iload 11, 2) := by decide +kernel
theorem d_MO_putData_168 : decode prog_12_method_11_code 168 = .ok (.bipush 8, 2) := by decide +kernel
theorem d_MO_putData_170 : decode prog_12_method_11_code 170 = .ok (.idiv, 1) := by decide +kernel
theorem d_MO_putData_171 : decode prog_12_method_11_code 171 = .ok (.iadd, 1) := by decide +kernel
theorem d_MO_putData_172 : decode prog_12_method_11_code 172 = .ok (.iaload, 1) := by decide +kernel
theorem d_MO_putData_173 : decode prog_12_method_11_code 173 = .ok (.aload_n 0, 1) := by decide +kernel
theorem d_MO_putData_174 : decode prog_12_method_11_code 174 = .ok (.getfield 13, 3) := by decide +kernel
theorem d_MO_putData_177 : decode prog_12_method_11_code 177 = .ok (.iload_n 1, 1) := by decide +kernel
theorem d_MO_putData_178 : decode prog_12_method_11_code 178 = .ok (.iload 9, 2) := by decide +kernel
theorem d_MO_putData_180 : decode prog_12_method_11_code 180 = .ok (.iadd, 1) := by decide +kernel
theorem d_MO_putData_181 : decode prog_12_method_11_code 181 = .ok (.iaload, 1) := by decide +kernel
theorem d_MO_putData_182 : decode prog_12_method_11_code 182 = .ok (.iload 10, 2) := by decide +kernel
theorem d_MO_putData_184 : decode prog_12_method_11_code 184 = .ok (.ishr, 1) := by decide +kernel
theorem d_MO_putData_185 : decode prog_12_method_11_code 185 = .ok (.iconst 1, 1) := by decide +kernel
theorem d_MO_putData_186 : decode prog_12_method_11_code 186 = .ok (.iand, 1) := by decide +kernel
theorem d_MO_putData_187 : decode prog_12_method_11_code 187 = .ok (.iload 11, 2) := by decide +kernel
theorem d_MO_putData_189 : decode prog_12_method_11_code 189 = .ok (.bipush 8, 2) := by decide +kernel
theorem d_MO_putData_191 : decode prog_12_method_11_code 191 = .ok (.irem, 1) := by decide +kernel
theorem d_MO_putData_192 : decode prog_12_method_11_code 192 = .ok (.ishl, 1) := by decide +kernel
theorem d_MO_putData_193 : decode prog_12_method_11_code 193 = .ok (.ior, 1) := by decide +kernel
theorem d_MO_putData_194 : decode prog_12_method_11_code 194 = .ok (.iastore, 1) := by decide +kernel
theorem d_MO_putData_195 : decode prog_12_method_11_code 195 = .ok (.iinc 10 1, 3) := by decide +kernel
theorem d_MO_putData_198 : decode prog_12_method_11_code 198 = .ok (.goto (-70), 3) := by decide +kernel
theorem d_MO_putData_201 : decode prog_12_method_11_code 201 = .ok (.iinc 9 1, 3) := by decide +kernel
theorem d_MO_putData_204 : decode prog_12_method_11_code 204 = .ok (.goto (-85), 3) := by decide +kernel
theorem d_MO_putData_207 : decode prog_12_method_11_code 207 = .ok (.return_, 1) := by decide +kernel
theorem d_MO_putSubmit_0 : decode prog_12_method_12_code 0 = .ok (.aload_n 0, 1) := by decide +kernel
theorem d_MO_putSubmit_1 : decode prog_12_method_12_code 1 = .ok (.iconst 0, 1) := by decide +kernel
theorem d_MO_putSubmit_2 : decode prog_12_method_12_code 2 = .ok (.putfield 131, 3) := by decide +kernel
theorem d_MO_putSubmit_5 : decode prog_12_method_12_code 5 = .ok (.aload_n 0, 1) := by decide +kernel
theorem d_MO_putSubmit_6 : decode prog_12_method_12_code 6 = .ok (.bipush 17, 2) := by decide +kernel
theorem d_MO_putSubmit_8 : decode prog_12_method_12_code 8 = .ok (.iload_n 1, 1) := by decide +kernel
theorem d_MO_putSubmit_9 : decode prog_12_method_12_code 9 = .ok (.ifCond .eq 8, 3) := by decide +kernel
theorem d_MO_putSubmit_12 : decode prog_12_method_12_code 12 = .ok (.bipush 32, 2) := by decide +kernel
theorem d_MO_putSubmit_14 : decode prog_12_method_12_code 14 = .ok (.goto 4, 3) := by decide +kernel
theorem d_MO_putSubmit_17 : decode prog_12_method_12_code 17 = .ok (.iconst 0, 1) := by decide +kernel
theorem d_MO_putSubmit_18 : decode prog_12_method_12_code 18 = .ok (.iadd, 1) := by decide +kernel
theorem d_MO_putSubmit_19 : decode prog_12_method_12_code 19 = .ok (.iload 8, 2) := by decide +kernel
theorem d_MO_putSubmit_21 : decode prog_12_method_12_code 21 = .ok (.ifCond .ge 7, 3) := by decide +kernel
theorem d_MO_putSubmit_24 : decode prog_12_method_12_code 24 = .ok (.iconst 0, 1) := by decide +kernel
theorem d_MO_putSubmit_25 : decode prog_12_method_12_code 25 = .ok (.goto 5, 3) := by decide +kernel
theorem d_MO_putSubmit_28 : decode prog_12_method_12_code 28 = .ok (.bipush 64, 2) := by decide +kernel
theorem d_MO_putSubmit_30 : decode prog_12_method_12_code 30 = .ok (.iadd, 1) := by decide +kernel
theorem d_MO_putSubmit_31 : decode prog_12_method_12_code 31 = .ok (.invokevirtual 140, 3) := by decide +kernel
theorem d_MO_putSubmit_34 : decode prog_12_method_12_code 34 = .ok (.aload_n 0, 1) := by decide +kernel
theorem d_MO_putSubmit_35 : decode prog_12_method_12_code 35 = .ok (.iload_n 2, 1) := by decide +kernel
theorem d_MO_putSubmit_36 : decode prog_12_method_12_code 36 = .ok (.invokevirtual 140, 3) := by decide +kernel
theorem d_MO_putSubmit_39 : decode prog_12_method_12_code 39 = .ok (.aload_n 0, 1) := by decide +kernel
theorem d_MO_putSubmit_40 : decode prog_12_method_12_code 40 = .ok (.lload_n 3, 1) := by decide +kernel
theorem d_MO_putSubmit_41 : decode prog_12_method_12_code 41 = .ok (.invokevirtual 151, 3) := by decide +kernel
theorem d_MO_putSubmit_44 : decode prog_12_method_12_code 44 = .ok (.aload_n 0, 1) := by decide +kernel
theorem d_MO_putSubmit_45 : decode prog_12_method_12_code 45 = .ok (.iconst 0, 1) := by decide +kernel
theorem d_MO_putSubmit_46 : decode prog_12_method_12_code 46 = .ok (.invokevirtual 140, 3) := by decide +kernel
theorem d_MO_putSubmit_49 : decode prog_12_method_12_code 49 = .ok (.aload_n 0, 1) := by decide +kernel
theorem d_MO_putSubmit_50 : decode prog_12_method_12_code 50 = .ok (.iconst 0, 1) := by decide +kernel
theorem d_MO_putSubmit_51 : decode prog_12_method_12_code 51 = .ok (.invokevirtual 140, 3) := by decide +kernel
theorem d_MO_putSubmit_54 : decode prog_12_method_12_code 54 = .ok (.aload_n 0, 1) := by decide +kernel
theorem d_MO_putSubmit_55 : decode prog_12_method_12_code 55 = .ok (.iload 5, 2) := by decide +kernel
theorem d_MO_putSubmit_57 : decode prog_12_method_12_code 57 = .ok (.invokevirtual 140, 3) := by decide +kernel
theorem d_MO_putSubmit_60 : decode prog_12_method_12_code 60 = .ok (.aload_n 0, 1) := by decide +kernel
theorem d_MO_putSubmit_61 : decode prog_12_method_12_code 61 = .ok (.iload 6, 2) := by decide +kernel
theorem d_MO_putSubmit_63 : decode prog_12_method_12_code 63 = .ok (.iload 7, 2) := by decide +kernel
theorem d_MO_putSubmit_65 : decode prog_12_method_12_code 65 = .ok (.iload 8, 2) := by decide +kernel
theorem d_MO_putSubmit_67 : decode prog_12_method_12_code 67 = .ok (.iload 9, 2) := by decide +kernel
theorem d_MO_putSubmit_69 : decode prog_12_method_12_code 69 = .ok (.iload 10, 2) := by decide +kernel
theorem d_MO_putSubmit_71 : decode prog_12_method_12_code 71 = .ok (.invokevirtual 155, 3) := by decide +kernel
theorem d_MO_putSubmit_74 : decode prog_12_method_12_code 74 = .ok (.return_, 1) := by decide +kernel
theorem d_MO_baseOf_0 : decode prog_12_method_13_code 0 = .ok (.iload_n 0, 1) := by decide +kernel
theorem d_MO_baseOf_1 : decode prog_12_method_13_code 1 = .ok (.ifCond .ne 7, 3) := by decide +kernel
theorem d_MO_baseOf_4 : decode prog_12_method_13_code 4 = .ok (.iconst 0, 1) := by decide +kernel
theorem d_MO_baseOf_5 : decode prog_12_method_13_code 5 = .ok (.goto 29, 3) := by decide +kernel
theorem d_MO_baseOf_8 : decode prog_12_method_13_code 8 = .ok (.iload_n 0, 1) := by decide +kernel
theorem d_MO_baseOf_9 : decode prog_12_method_13_code 9 = .ok (.iconst 5, 1) := by decide +kernel
theorem d_MO_baseOf_10 : decode prog_12_method_13_code 10 = .ok (.if_icmp .ge 15, 3) := by decide +kernel
theorem d_MO_baseOf_13 : decode prog_12_method_13_code 13 = .ok (.bipush 8, 2) := by decide +kernel
theorem d_MO_baseOf_15 : decode prog_12_method_13_code 15 = .ok (.bipush 6, 2) := by decide +kernel
theorem d_MO_baseOf_17 : decode prog_12_method_13_code 17 = .ok (.iload_n 0, 1) := by decide +kernel
theorem d_MO_baseOf_18 : decode prog_12_method_13_code 18 = .ok (.iconst 1, 1) := by decide +kernel
theorem d_MO_baseOf_19 : decode prog_12_method_13_code 19 = .ok (.isub, 1) := by decide +kernel
theorem d_MO_baseOf_20 : decode prog_12_method_13_code 20 = .ok (.imul, 1) := by decide +kernel
theorem d_MO_baseOf_21 : decode prog_12_method_13_code 21 = .ok (.iadd, 1) := by decide +kernel
theorem d_MO_baseOf_22 : decode prog_12_method_13_code 22 = .ok (.goto 12, 3) := by decide +kernel
theorem d_MO_baseOf_25 : decode prog_12_method_13_code 25 = .ok (.bipush 32, 2) := by decide +kernel
theorem d_MO_baseOf_27 : decode prog_12_method_13_code 27 = .ok (.bipush 6, 2) := by decide +kernel
theorem d_MO_baseOf_29 : decode prog_12_method_13_code 29 = .ok (.iload_n 0, 1) := by decide +kernel
theorem d_MO_baseOf_30 : decode prog_12_method_13_code 30 = .ok (.iconst 5, 1) := by decide +kernel
theorem d_MO_baseOf_31 : decode prog_12_method_13_code 31 = .ok (.isub, 1) := by decide +kernel
theorem d_MO_baseOf_32 : decode prog_12_method_13_code 32 = .ok (.imul, 1) := by decide +kernel
theorem d_MO_baseOf_33 : decode prog_12_method_13_code 33 = .ok (.iadd, 1) := by decide +kernel
theorem d_MO_baseOf_34 : decode prog_12_method_13_code 34 = .ok (.ireturn, 1) := by decide +kernel
end
section
theorem d_MO_append_0 : decode prog_12_method_14_code 0 = .ok (.iload_n 1, 1) := by decide +kernel
theorem d_MO_append_1 : decode prog_12_method_14_code 1 = .ok (.invokestatic 159, 3) := by decide +kernel
theorem d_MO_append_4 : decode prog_12_method_14_code 4 = .ok (.aload_n 0, 1) := by decide +kernel
theorem d_MO_append_5 : decode prog_12_method_14_code 5 = .ok (.getfield 51, 3) := by decide +kernel
theorem d_MO_append_8 : decode prog_12_method_14_code 8 = .ok (.iload_n 1, 1) := by decide +kernel
theorem d_MO_append_9 : decode prog_12_method_14_code 9 = .ok (.iaload, 1) := by decide +kernel
theorem d_MO_append_10 : decode prog_12_method_14_code 10 = .ok (.iadd, 1) := by decide +kernel
theorem d_MO_append_11 : decode prog_12_method_14_code 11 = .ok (.istore_n 3, 1) := by decide +kernel
theorem d_MO_append_12 : decode prog_12_method_14_code 12 = .ok (.iconst 0, 1) := by decide +kernel
theorem d_MO_append_13 : decode prog_12_method_14_code 13 = .ok (.istore 4, 2) := by decide +kernel
theorem d_MO_append_15 : decode prog_12_method_14_code 15 = .ok (.iload 4, 2) := by decide +kernel
theorem d_MO_append_17 : decode prog_12_method_14_code 17 = .ok (.aload_n 0, 1) := by decide +kernel
theorem d_MO_append_18 : decode prog_12_method_14_code 18 = .ok (.getfield 131, 3) := by decide +kernel
theorem d_MO_append_21 : decode prog_12_method_14_code 21 = .ok (.if_icmp .ge 29, 3) := by decide +kernel
theorem d_MO_append_24 : decode prog_12_method_14_code 24 = .ok (.aload_n 0, 1) := by decide +kernel
theorem d_MO_append_25 : decode prog_12_method_14_code 25 = .ok (.getfield 42, 3) := by decide +kernel
theorem d_MO_append_28 : decode prog_12_method_14_code 28 = .ok (.sipush 160, 3) := by decide +kernel
theorem d_MO_append_31 : decode prog_12_method_14_code 31 = .ok (.iload_n 3, 1) := by decide +kernel
theorem d_MO_append_32 : decode prog_12_method_14_code 32 = .ok (.imul, 1) := by decide +kernel
theorem d_MO_append_33 : decode prog_12_method_14_code 33 = .ok (.iload 4, 2) := by decide +kernel
theorem d_MO_append_35 : decode prog_12_method_14_code 35 = .ok (.iadd, 1) := by decide +kernel
theorem d_MO_append_36 : decode prog_12_method_14_code 36 = .ok (.aload_n 0, 1) := by decide +kernel
theorem d_MO_append_37 : decode prog_12_method_14_code 37 = .ok (.getfield 39, 3) := by decide +kernel
theorem d_MO_append_40 : decode prog_12_method_14_code 40 = .ok (.iload 4, 2) := by decide +kernel
theorem d_MO_append_42 : decode prog_12_method_14_code 42 = .ok (.iaload, 1) := by decide +kernel
theorem d_MO_append_43 : decode prog_12_method_14_code 43 = .ok (.iastore, 1) := by decide +kernel
theorem d_MO_append_44 : decode prog_12_method_14_code 44 = .ok (.iinc 4 1, 3) := by decide +kernel
theorem d_MO_append_47 : decode prog_12_method_14_code 47 = .ok (.goto (-32), 3) := by decide +kernel
theorem d_MO_append_50 : decode prog_12_method_14_code 50 = .ok (.aload_n 0, 1) := by decide +kernel
theorem d_MO_append_51 : decode prog_12_method_14_code 51 = .ok (.getfield 45, 3) := by decide +kernel
theorem d_MO_append_54 : decode prog_12_method_14_code 54 = .ok (.iload_n 3, 1) := by decide +kernel
theorem d_MO_append_55 : decode prog_12_method_14_code 55 = .ok (.aload_n 0, 1) := by decide +kernel
theorem d_MO_append_56 : decode prog_12_method_14_code 56 = .ok (.getfield 131, 3) := by decide +kernel
theorem d_MO_append_59 : decode prog_12_method_14_code 59 = .ok (.iastore, 1) := by decide +kernel
theorem d_MO_append_60 : decode prog_12_method_14_code 60 = .ok (.aload_n 0, 1) := by decide +kernel
theorem d_MO_append_61 : decode prog_12_method_14_code 61 = .ok (.getfield 48, 3) := by decide +kernel
theorem d_MO_append_64 : decode prog_12_method_14_code 64 = .ok (.iload_n 3, 1) := by decide +kernel
theorem d_MO_append_65 : decode prog_12_method_14_code 65 = .ok (.iload_n 2, 1) := by decide +kernel
theorem d_MO_append_66 : decode prog_12_method_14_code 66 = .ok (.iastore, 1) := by decide +kernel
theorem d_MO_append_67 : decode prog_12_method_14_code 67 = .ok (.aload_n 0, 1) := by decide +kernel
theorem d_MO_append_68 : decode prog_12_method_14_code 68 = .ok (.getfield 51, 3) := by decide +kernel
theorem d_MO_append_71 : decode prog_12_method_14_code 71 = .ok (.iload_n 1, 1) := by decide +kernel
theorem d_MO_append_72 : decode prog_12_method_14_code 72 = .ok (.dup2, 1) := by decide +kernel
theorem d_MO_append_73 : decode prog_12_method_14_code 73 = .ok (.iaload, 1) := by decide +kernel
theorem d_MO_append_74 : decode prog_12_method_14_code 74 = .ok (.iconst 1, 1) := by decide +kernel
theorem d_MO_append_75 : decode prog_12_method_14_code 75 = .ok (.iadd, 1) := by decide +kernel
theorem d_MO_append_76 : decode prog_12_method_14_code 76 = .ok (.iastore, 1) := by decide +kernel
theorem d_MO_append_77 : decode prog_12_method_14_code 77 = .ok (.return_, 1) := by decide +kernel
theorem d_MO_load_0 : decode prog_12_method_15_code 0 = .ok (.aload_n 0, 1) := by decide +kernel
theorem d_MO_load_1 : decode prog_12_method_15_code 1 = .ok (.aload_n 0, 1) := by decide +kernel
theorem d_MO_load_2 : decode prog_12_method_15_code 2 = .ok (.getfield 45, 3) := by decide +kernel
theorem d_MO_load_5 : decode prog_12_method_15_code 5 = .ok (.iload_n 1, 1) := by decide +kernel
theorem d_MO_load_6 : decode prog_12_method_15_code 6 = .ok (.iaload, 1) := by decide +kernel
theorem d_MO_load_7 : decode prog_12_method_15_code 7 = .ok (.putfield 131, 3) := by decide +kernel
theorem d_MO_load_10 : decode prog_12_method_15_code 10 = .ok (.iconst 0, 1) := by decide +kernel
theorem d_MO_load_11 : decode prog_12_method_15_code 11 = .ok (.istore_n 2, 1) := by decide +kernel
theorem d_MO_load_12 : decode prog_12_method_15_code 12 = .ok (.iload_n 2, 1) := by decide +kernel
theorem d_MO_load_13 : decode prog_12_method_15_code 13 = .ok (.aload_n 0, 1) := by decide +kernel
theorem d_MO_load_14 : decode prog_12_method_15_code 14 = .ok (.getfield 131, 3) := by decide +kernel
theorem d_MO_load_17 : decode prog_12_method_15_code 17 = .ok (.if_icmp .ge 27, 3) := by decide +kernel
theorem d_MO_load_20 : decode prog_12_method_15_code 20 = .ok (.aload_n 0, 1) := by decide +kernel
theorem d_MO_load_21 : decode prog_12_method_15_code 21 = .ok (.getfield 39, 3) := by decide +kernel
theorem d_MO_load_24 : decode prog_12_method_15_code 24 = .ok (.iload_n 2, 1) := by decide +kernel
theorem d_MO_load_25 : decode prog_12_method_15_code 25 = .ok (.aload_n 0, 1) := by decide +kernel
theorem d_MO_load_26 : decode prog_12_method_15_code 26 = .ok (.getfield 42, 3) := by decide +kernel
theorem d_MO_load_29 : decode prog_12_method_15_code 29 = .ok (.sipush 160, 3) := by decide +kernel
theorem d_MO_load_32 : decode prog_12_method_15_code 32 = .ok (.iload_n 1, 1) := by decide +kernel
theorem d_MO_load_33 : decode prog_12_method_15_code 33 = .ok (.imul, 1) := by decide +kernel
theorem d_MO_load_34 : decode prog_12_method_15_code 34 = .ok (.iload_n 2, 1) := by decide +kernel
theorem d_MO_load_35 : decode prog_12_method_15_code 35 = .ok (.iadd, 1) := by decide +kernel
theorem d_MO_load_36 : decode prog_12_method_15_code 36 = .ok (.iaload, 1) := by decide +kernel
theorem d_MO_load_37 : decode prog_12_method_15_code 37 = .ok (.iastore, 1) := by decide +kernel
theorem d_MO_load_38 : decode prog_12_method_15_code 38 = .ok (.iinc 2 1, 3) := by decide +kernel
theorem d_MO_load_41 : decode prog_12_method_15_code 41 = .ok (.goto (-29), 3) := by decide +kernel
theorem d_MO_load_44 : decode prog_12_method_15_code 44 = .ok (.return_, 1) := by decide +kernel
theorem d_MO_move_0 : decode prog_12_method_16_code 0 = .ok (.iconst 0, 1) := by decide +kernel
theorem d_MO_move_1 : decode prog_12_method_16_code 1 = .ok (.istore_n 3, 1) := by decide +kernel
theorem d_MO_move_2 : decode prog_12_method_16_code 2 = .ok (.iload_n 3, 1) := by decide +kernel
theorem d_MO_move_3 : decode prog_12_method_16_code 3 = .ok (.sipush 160, 3) := by decide +kernel
theorem d_MO_move_6 : decode prog_12_method_16_code 6 = .ok (.if_icmp .ge 33, 3) := by decide +kernel
theorem d_MO_move_9 : decode prog_12_method_16_code 9 = .ok (.aload_n 0, 1) := by decide +kernel
theorem d_MO_move_10 : decode prog_12_method_16_code 10 = .ok (.getfield 42, 3) := by decide +kernel
theorem d_MO_move_13 : decode prog_12_method_16_code 13 = .ok (.sipush 160, 3) := by decide +kernel
theorem d_MO_move_16 : decode prog_12_method_16_code 16 = .ok (.iload_n 1, 1) := by decide +kernel
theorem d_MO_move_17 : decode prog_12_method_16_code 17 = .ok (.imul, 1) := by decide +kernel
theorem d_MO_move_18 : decode prog_12_method_16_code 18 = .ok (.iload_n 3, 1) := by decide +kernel
theorem d_MO_move_19 : decode prog_12_method_16_code 19 = .ok (.iadd, 1) := by decide +kernel
theorem d_MO_move_20 : decode prog_12_method_16_code 20 = .ok (.aload_n 0, 1) := by decide +kernel
theorem d_MO_move_21 : decode prog_12_method_16_code 21 = .ok (.getfield 42, 3) := by decide +kernel
theorem d_MO_move_24 : decode prog_12_method_16_code 24 = .ok (.sipush 160, 3) := by decide +kernel
theorem d_MO_move_27 : decode prog_12_method_16_code 27 = .ok (.iload_n 2, 1) := by decide +kernel
theorem d_MO_move_28 : decode prog_12_method_16_code 28 = .ok (.imul, 1) := by decide +kernel
theorem d_MO_move_29 : decode prog_12_method_16_code 29 = .ok (.iload_n 3, 1) := by decide +kernel
theorem d_MO_move_30 : decode prog_12_method_16_code 30 = .ok (.iadd, 1) := by decide +kernel
theorem d_MO_move_31 : decode prog_12_method_16_code 31 = .ok (.iaload, 1) := by decide +kernel
theorem d_MO_move_32 : decode prog_12_method_16_code 32 = .ok (.iastore, 1) := by decide +kernel
theorem d_MO_move_33 : decode prog_12_method_16_code 33 = .ok (.iinc 3 1, 3) := by decide +kernel
theorem d_MO_move_36 : decode prog_12_method_16_code 36 = .ok (.goto (-34), 3) := by decide +kernel
theorem d_MO_move_39 : decode prog_12_method_16_code 39 = .ok (.aload_n 0, 1) := by decide +kernel
theorem d_MO_move_40 : decode prog_12_method_16_code 40 = .ok (.getfield 45, 3) := by decide +kernel
theorem d_MO_move_43 : decode prog_12_method_16_code 43 = .ok (.iload_n 1, 1) := by decide +kernel
theorem d_MO_move_44 : decode prog_12_method_16_code 44 = .ok (.aload_n 0, 1) := by decide +kernel
theorem d_MO_move_45 : decode prog_12_method_16_code 45 = .ok (.getfield 45, 3) := by decide +kernel
theorem d_MO_move_48 : decode prog_12_method_16_code 48 = .ok (.iload_n 2, 1) := by decide +kernel
theorem d_MO_move_49 : decode prog_12_method_16_code 49 = .ok (.iaload, 1) := by decide +kernel
theorem d_MO_move_50 : decode prog_12_method_16_code 50 = .ok (.iastore, 1) := by decide +kernel
theorem d_MO_move_51 : decode prog_12_method_16_code 51 = .ok (.aload_n 0, 1) := by decide +kernel
theorem d_MO_move_52 : decode prog_12_method_16_code 52 = .ok (.getfield 48, 3) := by decide +kernel
theorem d_MO_move_55 : decode prog_12_method_16_code 55 = .ok (.iload_n 1, 1) := by decide +kernel
theorem d_MO_move_56 : decode prog_12_method_16_code 56 = .ok (.aload_n 0, 1) := by decide +kernel
theorem d_MO_move_57 : decode prog_12_method_16_code 57 = .ok (.getfield 48, 3) := by decide +kernel
theorem d_MO_move_60 : decode prog_12_method_16_code 60 = .ok (.iload_n 2, 1) := by decide +kernel
theorem d_MO_move_61 : decode prog_12_method_16_code 61 = .ok (.iaload, 1) := by decide +kernel
theorem d_MO_move_62 : decode prog_12_method_16_code 62 = .ok (.iastore, 1) := by decide +kernel
theorem d_MO_move_63 : decode prog_12_method_16_code 63 = .ok (.return_, 1) := by decide +kernel
theorem d_MO_removeFirst_0 : decode prog_12_method_17_code 0 = .ok (.iload_n 1, 1) := by decide +kernel
theorem d_MO_removeFirst_1 : decode prog_12_method_17_code 1 = .ok (.invokestatic 159, 3) := by decide +kernel
theorem d_MO_removeFirst_4 : decode prog_12_method_17_code 4 = .ok (.istore_n 2, 1) := by decide +kernel
theorem d_MO_removeFirst_5 : decode prog_12_method_17_code 5 = .ok (.aload_n 0, 1) := by decide +kernel
theorem d_MO_removeFirst_6 : decode prog_12_method_17_code 6 = .ok (.getfield 51, 3) := by decide +kernel
theorem d_MO_removeFirst_9 : decode prog_12_method_17_code 9 = .ok (.iload_n 1, 1) := by decide +kernel
theorem d_MO_removeFirst_10 : decode prog_12_method_17_code 10 = .ok (.dup2, 1) := by decide +kernel
theorem d_MO_removeFirst_11 : decode prog_12_method_17_code 11 = .ok (.iaload, 1) := by decide +kernel
theorem d_MO_removeFirst_12 : decode prog_12_method_17_code 12 = .ok (.iconst 1, 1) := by decide +kernel
theorem d_MO_removeFirst_13 : decode prog_12_method_17_code 13 = .ok (.isub, 1) := by decide +kernel
theorem d_MO_removeFirst_14 : decode prog_12_method_17_code 14 = .ok (.iastore, 1) := by decide +kernel
theorem d_MO_removeFirst_15 : decode prog_12_method_17_code 15 = .ok (.iconst 0, 1) := by decide +kernel
theorem d_MO_removeFirst_16 : decode prog_12_method_17_code 16 = .ok (.istore_n 3, 1) := by decide +kernel
theorem d_MO_removeFirst_17 : decode prog_12_method_17_code 17 = .ok (.iload_n 3, 1) := by decide +kernel
theorem d_MO_removeFirst_18 : decode prog_12_method_17_code 18 = .ok (.aload_n 0, 1) := by decide +kernel
theorem d_MO_removeFirst_19 : decode prog_12_method_17_code 19 = .ok (.getfield 51, 3) := by decide +kernel
theorem d_MO_removeFirst_22 : decode prog_12_method_17_code 22 = .ok (.iload_n 1, 1) := by decide +kernel
theorem d_MO_removeFirst_23 : decode prog_12_method_17_code 23 = .ok (.iaload, 1) := by decide +kernel
theorem d_MO_removeFirst_24 : decode prog_12_method_17_code 24 = .ok (.if_icmp .ge 21, 3) := by decide +kernel
theorem d_MO_removeFirst_27 : decode prog_12_method_17_code 27 = .ok (.aload_n 0, 1) := by decide +kernel
theorem d_MO_removeFirst_28 : decode prog_12_method_17_code 28 = .ok (.iload_n 2, 1) := by decide +kernel
theorem d_MO_removeFirst_29 : decode prog_12_method_17_code 29 = .ok (.iload_n 3, 1) := by decide +kernel
theorem d_MO_removeFirst_30 : decode prog_12_method_17_code 30 = .ok (.iadd, 1) := by decide +kernel
theorem d_MO_removeFirst_31 : decode prog_12_method_17_code 31 = .ok (.iload_n 2, 1) := by decide +kernel
theorem d_MO_removeFirst_32 : decode prog_12_method_17_code 32 = .ok (.iload_n 3, 1) := by decide +kernel
theorem d_MO_removeFirst_33 : decode prog_12_method_17_code 33 = .ok (.iadd, 1) := by decide +kernel
theorem d_MO_removeFirst_34 : decode prog_12_method_17_code 34 = .ok (.iconst 1, 1) := by decide +kernel
theorem d_MO_removeFirst_35 : decode prog_12_method_17_code 35 = .ok (.iadd, 1) := by decide +kernel
theorem d_MO_removeFirst_36 : decode prog_12_method_17_code 36 = .ok (.invokevirtual 162, 3) := by decide +kernel
theorem d_MO_removeFirst_39 : decode prog_12_method_17_code 39 = .ok (.iinc 3 1, 3) := by decide +kernel
theorem d_MO_removeFirst_42 : decode prog_12_method_17_code 42 = .ok (.goto (-25), 3) := by decide +kernel
theorem d_MO_removeFirst_45 : decode prog_12_method_17_code 45 = .ok (.return_, 1) := by decide +kernel
theorem d_MO_bit_0 : decode prog_12_method_18_code 0 = .ok (.aload_n 0, 1) := by decide +kernel
theorem d_MO_bit_1 : decode prog_12_method_18_code 1 = .ok (.getfield 39, 3) := by decide +kernel
theorem d_MO_bit_4 : decode prog_12_method_18_code 4 = .ok (.iload_n 1, 1) := by decide +kernel
theorem d_MO_bit_5 : decode prog_12_method_18_code 5 = .ok (.iload_n 2, 1) := by decide +kernel
theorem d_MO_bit_6 : decode prog_12_method_18_code 6 = .ok (.bipush 8, 2) := by decide +kernel
theorem d_MO_bit_8 : decode prog_12_method_18_code 8 = .ok (.idiv, 1) := by decide +kernel
theorem d_MO_bit_9 : decode prog_12_method_18_code 9 = .ok (.iadd, 1) := by decide +kernel
theorem d_MO_bit_10 : decode prog_12_method_18_code 10 = .ok (.iaload, 1) := by decide +kernel
theorem d_MO_bit_11 : decode prog_12_method_18_code 11 = .ok (.iload_n 2, 1) := by decide +kernel
theorem d_MO_bit_12 : decode prog_12_method_18_code 12 = .ok (.bipush 8, 2) := by decide +kernel
theorem d_MO_bit_14 : decode prog_12_method_18_code 14 = .ok (.irem, 1) := by decide +kernel
theorem d_MO_bit_15 : decode prog_12_method_18_code 15 = .ok (.ishr, 1) := by decide +kernel
theorem d_MO_bit_16 : decode prog_12_method_18_code 16 = .ok (.iconst 1, 1) := by decide +kernel
theorem d_MO_bit_17 : decode prog_12_method_18_code 17 = .ok (.iand, 1) := by decide +kernel
theorem d_MO_bit_18 : decode prog_12_method_18_code 18 = .ok (.ireturn, 1) := by decide +kernel
theorem d_MO_readSeptets_0 : decode prog_12_method_19_code 0 = .ok (.iload_n 2, 1) := by decide +kernel
theorem d_MO_readSeptets_1 : decode prog_12_method_19_code 1 = .ok (.ifCond .eq 8, 3) := by decide +kernel
theorem d_MO_readSeptets_4 : decode prog_12_method_19_code 4 = .ok (.bipush 49, 2) := by decide +kernel
theorem d_MO_readSeptets_6 : decode prog_12_method_19_code 6 = .ok (.goto 4, 3) := by decide +kernel
theorem d_MO_readSeptets_9 : decode prog_12_method_19_code 9 = .ok (.iconst 0, 1) := by decide +kernel
theorem d_MO_readSeptets_10 : decode prog_12_method_19_code 10 = .ok (.istore_n 3, 1) := by decide +kernel
theorem d_MO_readSeptets_11 : decode prog_12_method_19_code 11 = .ok (.aload_n 0, 1) := by decide +kernel
theorem d_MO_readSeptets_12 : decode prog_12_method_19_code 12 = .ok (.iload_n 2, 1) := by decide +kernel
theorem d_MO_readSeptets_13 : decode prog_12_method_19_code 13 = .ok (.ifCond .eq 15, 3) := by decide +kernel
theorem d_MO_readSeptets_16 : decode prog_12_method_19_code 16 = .ok (.aload_n 0, 1) := by decide +kernel
theorem d_MO_readSeptets_17 : decode prog_12_method_19_code 17 = .ok (.getfield 39, 3) := by decide +kernel
theorem d_MO_readSeptets_20 : decode prog_12_method_19_code 20 = .ok (.iload_n 1, 1) := by decide +kernel
theorem d_MO_readSeptets_21 : decode prog_12_method_19_code 21 = .ok (.iaload, 1) := by decide +kernel
theorem d_MO_readSeptets_22 : decode prog_12_method_19_code 22 = .ok (.bipush 7, 2) := by decide +kernel
theorem d_MO_readSeptets_24 : decode prog_12_method_19_code 24 = .ok (.isub, 1) := by decide +kernel
theorem d_MO_readSeptets_25 : decode prog_12_method_19_code 25 = .ok (.goto 9, 3) := by decide +kernel
theorem d_MO_readSeptets_28 : decode prog_12_method_19_code 28 = .ok (.aload_n 0, 1) := by decide +kernel
theorem d_MO_readSeptets_29 : decode prog_12_method_19_code 29 = .ok (.getfield 39, 3) := by decide +kernel
theorem d_MO_readSeptets_32 : decode prog_12_method_19_code 32 = .ok (.iload_n 1, 1) := by decide +kernel
theorem d_MO_readSeptets_33 : decode prog_12_method_19_code 33 = .ok (.iaload, 1) := by decide +kernel
theorem d_MO_readSeptets_34 : decode prog_12_method_19_code 34 = .ok (.putfield 124, 3) := by decide +kernel
theorem d_MO_readSeptets_37 : decode prog_12_method_19_code 37 = .ok (.iconst 0, 1) := by decide +kernel
theorem d_MO_readSeptets_38 : decode prog_12_method_19_code 38 = .ok (.istore 4, 2) := by decide +kernel
theorem d_MO_readSeptets_40 : decode prog_12_method_19_code 40 = .ok (.iload 4, 2) := by decide +kernel
theorem d_MO_readSeptets_42 : decode prog_12_method_19_code 42 = .ok (.aload_n 0, 1) := by decide +kernel
theorem d_MO_readSeptets_43 : decode prog_12_method_19_code 43 = .ok (.getfield 124, 3) := by decide +kernel
theorem d_MO_readSeptets_46 : decode prog_12_method_19_code 46 = .ok (.if_icmp .ge 68, 3) := by decide +kernel
theorem d_MO_readSeptets_49 : decode prog_12_method_19_code 49 = .ok (.aload_n 0, 1) := by decide +kernel
theorem d_MO_readSeptets_50 : decode prog_12_method_19_code 50 = .ok (.getfield 13, 3) := by decide +kernel
theorem d_MO_readSeptets_53 : decode prog_12_method_19_code 53 = .ok (.iload 4, 2) := by decide +kernel
theorem d_MO_readSeptets_55 : decode prog_12_method_19_code 55 = .ok (.iconst 0, 1) := by decide +kernel
theorem d_MO_readSeptets_56 : decode prog_12_method_19_code 56 = .ok (.iastore, 1) := by decide +kernel
theorem d_MO_readSeptets_57 : decode prog_12_method_19_code 57 = .ok (.iconst 0, 1) := by decide +kernel
theorem d_MO_readSeptets_58 : decode prog_12_method_19_code 58 = .ok (.istore 5, 2) := by decide +kernel
theorem d_MO_readSeptets_60 : decode prog_12_method_19_code 60 = .ok (.iload 5, 2) := by decide +kernel
theorem d_MO_readSeptets_62 : decode prog_12_method_19_code 62 = .ok (.bipush 7, 2) := by decide +kernel
theorem d_MO_readSeptets_64 : decode prog_12_method_19_code 64 = .ok (.if_icmp .ge 44, 3) := by decide +kernel
theorem d_MO_readSeptets_67 : decode prog_12_method_19_code 67 = .ok (.aload_n 0, 1) := by decide +kernel
theorem d_MO_readSeptets_68 : decode prog_12_method_19_code 68 = .ok (.getfield 13, 3) := by decide +kernel
theorem d_MO_readSeptets_71 : decode prog_12_method_19_code 71 = .ok (.iload 4, 2) := by decide +kernel
theorem d_MO_readSeptets_73 : decode prog_12_method_19_code 73 = .ok (.aload_n 0, 1) := by decide +kernel
theorem d_MO_readSeptets_74 : decode prog_12_method_19_code 74 = .ok (.getfield 13, 3) := by decide +kernel
theorem d_MO_readSeptets_77 : decode prog_12_method_19_code 77 = .ok (.iload 4, 2) := by decide +kernel
theorem d_MO_readSeptets_79 : decode prog_12_method_19_code 79 = .ok (.iaload, 1) := by decide +kernel
theorem d_MO_readSeptets_80 : decode prog_12_method_19_code 80 = .ok (.aload_n 0, 1) := by decide +kernel
theorem d_MO_readSeptets_81 : decode prog_12_method_19_code 81 = .ok (.iload_n 1, 1) := by decide +kernel
theorem d_MO_readSeptets_82 : decode prog_12_method_19_code 82 = .ok (.iconst 1, 1) := by decide +kernel
theorem d_MO_readSeptets_83 : decode prog_12_method_19_code 83 = .ok (.iadd, 1) := by decide +kernel
theorem d_MO_readSeptets_84 : decode prog_12_method_19_code 84 = .ok (.iload_n 3, 1) := by decide +kernel
theorem d_MO_readSeptets_85 : decode prog_12_method_19_code 85 = .ok (.bipush 7, 2) := by decide +kernel
theorem d_MO_readSeptets_87 : decode prog_12_method_19_code 87 = .ok (.iload 4, 2) := by decide +kernel
theorem d_MO_readSeptets_89 : decode prog_12_method_19_code 89 = .ok (.imul, 1) := by decide +kernel
theorem d_MO_readSeptets_90 : decode prog_12_method_19_code 90 = .ok (.iadd, 1) := by decide +kernel
theorem d_MO_readSeptets_91 : decode prog_12_method_19_code 91 = .ok (.iload 5, 2) := by decide +kernel
theorem d_MO_readSeptets_93 : decode prog_12_method_19_code 93 = .ok (.iadd, 1) := by decide +kernel
theorem d_MO_readSeptets_94 : decode prog_12_method_19_code 94 = .ok (.invokevirtual 166, 3) := by decide +kernel
theorem d_MO_readSeptets_97 : decode prog_12_method_19_code 97 = .ok (.iload 5, 2) := by decide +kernel
theorem d_MO_readSeptets_99 : decode prog_12_method_19_code 99 = .ok (.ishl, 1) := by decide +kernel
theorem d_MO_readSeptets_100 : decode prog_12_method_19_code 100 = .ok (.ior, 1) := by decide +kernel
theorem d_MO_readSeptets_101 : decode prog_12_method_19_code 101 = .ok (.iastore, 1) := by decide +kernel
theorem d_MO_readSeptets_102 : decode prog_12_method_19_code 102 = .ok (.iinc 5 1, 3) := by decide +kernel
theorem d_MO_readSeptets_105 : decode prog_12_method_19_code 105 = .ok (.goto (-45), 3) := by decide +kernel
theorem d_MO_readSeptets_108 : decode prog_12_method_19_code 108 = .ok (.iinc 4 1, 3) := by decide +kernel
theorem d_MO_readSeptets_111 : decode prog_12_method_19_code 111 = .ok (.goto (-71), 3) := by decide +kernel
theorem d_MO_readSeptets_114 : decode prog_12_method_19_code 114 = .ok (.return_, 1) := by decide +kernel
theorem d_MO_areText_0 : decode prog_12_method_20_code 0 = .ok (.iconst 0, 1) := by decide +kernel
theorem d_MO_areText_1 : decode prog_12_method_20_code 1 = .ok (.istore_n 1, 1) := by decide +kernel
theorem d_MO_areText_2 : decode prog_12_method_20_code 2 = .ok (.iconst 0, 1) := by decide +kernel
theorem d_MO_areText_3 : decode prog_12_method_20_code 3 = .ok (.istore_n 2, 1) := by decide +kernel
theorem d_MO_areText_4 : decode prog_12_method_20_code 4 = .ok (.iload_n 2, 1) := by decide +kernel
theorem d_MO_areText_5 : decode prog_12_method_20_code 5 = .ok (.aload_n 0, 1) := by decide +kernel
theorem d_MO_areText_6 : decode prog_12_method_20_code 6 = .ok (.getfield 124, 3) := by decide +kernel
theorem d_MO_areText_9 : decode prog_12_method_20_code 9 = .ok (.if_icmp .ge 48, 3) := by decide +kernel
theorem d_MO_areText_12 : decode prog_12_method_20_code 12 = .ok (.iload_n 1, 1) := by decide +kernel
theorem d_MO_areText_13 : decode prog_12_method_20_code 13 = .ok (.ifCond .eq 17, 3) := by decide +kernel
theorem d_MO_areText_16 : decode prog_12_method_20_code 16 = .ok (.aload_n 0, 1) := by decide +kernel
theorem d_MO_areText_17 : decode prog_12_method_20_code 17 = .ok (.getfield 13, 3) := by decide +kernel
theorem d_MO_areText_20 : decode prog_12_method_20_code 20 = .ok (.iload_n 2, 1) := by decide +kernel
theorem d_MO_areText_21 : decode prog_12_method_20_code 21 = .ok (.iaload, 1) := by decide +kernel
theorem d_MO_areText_22 : decode prog_12_method_20_code 22 = .ok (.invokestatic 128, 3) := by decide +kernel
theorem d_MO_areText_25 : decode prog_12_method_20_code 25 = .ok (.ifCond .ge 5, 3) := by decide +kernel
theorem d_MO_areText_28 : decode prog_12_method_20_code 28 = .ok (.iconst 0, 1) := by decide +kernel
theorem d_MO_areText_29 : decode prog_12_method_20_code 29 = .ok (.ireturn, 1) := by decide +kernel
theorem d_MO_areText_30 : decode prog_12_method_20_code 30 = .ok (.iload_n 1, 1) := by decide +kernel
theorem d_MO_areText_31 : decode prog_12_method_20_code 31 = .ok (.ifCond .ne 18, 3) := by decide +kernel
theorem d_MO_areText_34 : decode prog_12_method_20_code 34 = .ok (.aload_n 0, 1) := by decide +kernel
theorem d_MO_areText_35 : decode prog_12_method_20_code 35 = .ok (.getfield 13, 3) := by decide +kernel
theorem d_MO_areText_38 : decode prog_12_method_20_code 38 = .ok (.iload_n 2, 1) := by decide +kernel
theorem d_MO_areText_39 : decode prog_12_method_20_code 39 = .ok (.iaload, 1) := by decide +kernel
theorem d_MO_areText_40 : decode prog_12_method_20_code 40 = .ok (.bipush 27, 2) := by decide +kernel
theorem d_MO_areText_42 : decode prog_12_method_20_code 42 = .ok (.if_icmp .ne 7, 3) := by decide +kernel
theorem d_MO_areText_45 : decode prog_12_method_20_code 45 = .ok (.iconst 1, 1) := by decide +kernel
theorem d_MO_areText_46 : decode prog_12_method_20_code 46 = .ok (.goto 4, 3) := by decide +kernel
theorem d_MO_areText_49 : decode prog_12_method_20_code 49 = .ok (.iconst 0, 1) := by decide +kernel
theorem d_MO_areText_50 : decode prog_12_method_20_code 50 = .ok (.istore_n 1, 1) := by decide +kernel
theorem d_MO_areText_51 : decode prog_12_method_20_code 51 = .ok (.iinc 2 1, 3) := by decide +kernel
theorem d_MO_areText_54 : decode prog_12_method_20_code 54 = .ok (.goto (-50), 3) := by decide +kernel
theorem d_MO_areText_57 : decode prog_12_method_20_code 57 = .ok (.iload_n 1, 1) := by decide +kernel
theorem d_MO_areText_58 : decode prog_12_method_20_code 58 = .ok (.ifCond .ne 7, 3) := by decide +kernel
theorem d_MO_areText_61 : decode prog_12_method_20_code 61 = .ok (.iconst 1, 1) := by decide +kernel
theorem d_MO_areText_62 : decode prog_12_method_20_code 62 = .ok (.goto 4, 3) := by decide +kernel
theorem d_MO_areText_65 : decode prog_12_method_20_code 65 = .ok (.iconst 0, 1) := by decide +kernel
theorem d_MO_areText_66 : decode prog_12_method_20_code 66 = .ok (.ireturn, 1) := by decide +kernel
theorem d_MO_readNumber_0 : decode prog_12_method_21_code 0 = .ok (.iload_n 1, 1) := by decide +kernel
theorem d_MO_readNumber_1 : decode prog_12_method_21_code 1 = .ok (.iconst 1, 1) := by decide +kernel
theorem d_MO_readNumber_2 : decode prog_12_method_21_code 2 = .ok (.iadd, 1) := by decide +kernel
theorem d_MO_readNumber_3 : decode prog_12_method_21_code 3 = .ok (.aload_n 0, 1) := by decide +kernel
theorem d_MO_readNumber_4 : decode prog_12_method_21_code 4 = .ok (.getfield 131, 3) := by decide +kernel
theorem d_MO_readNumber_7 : decode prog_12_method_21_code 7 = .ok (.if_icmp .ge 45, 3) := by decide +kernel
theorem d_MO_readNumber_10 : decode prog_12_method_21_code 10 = .ok (.aload_n 0, 1) := by decide +kernel
theorem d_MO_readNumber_11 : decode prog_12_method_21_code 11 = .ok (.getfield 39, 3) := by decide +kernel
theorem d_MO_readNumber_14 : decode prog_12_method_21_code 14 = .ok (.iload_n 1, 1) := by decide +kernel
theorem d_MO_readNumber_15 : decode prog_12_method_21_code 15 = .ok (.iaload, 1) := by decide +kernel
theorem d_MO_readNumber_16 : decode prog_12_method_21_code 16 = .ok (.iconst 1, 1) := by decide +kernel
theorem d_MO_readNumber_17 : decode prog_12_method_21_code 17 = .ok (.if_icmp .lt 35, 3) := by decide +kernel
theorem d_MO_readNumber_20 : decode prog_12_method_21_code 20 = .ok (.aload_n 0, 1) := by decide +kernel
theorem d_MO_readNumber_21 : decode prog_12_method_21_code 21 = .ok (.getfield 39, 3) := by decide +kernel
theorem d_MO_readNumber_24 : decode prog_12_method_21_code 24 = .ok (.iload_n 1, 1) := by decide +kernel
theorem d_MO_readNumber_25 : decode prog_12_method_21_code 25 = .ok (.iaload, 1) := by decide +kernel
theorem d_MO_readNumber_26 : decode prog_12_method_21_code 26 = .ok (.bipush 12, 2) := by decide +kernel
theorem d_MO_readNumber_28 : decode prog_12_method_21_code 28 = .ok (.if_icmp .gt 24, 3) := by decide +kernel
theorem d_MO_readNumber_31 : decode prog_12_method_21_code 31 = .ok (.iload_n 1, 1) := by decide +kernel
theorem d_MO_readNumber_32 : decode prog_12_method_21_code 32 = .ok (.iconst 2, 1) := by decide +kernel
theorem d_MO_readNumber_33 : decode prog_12_method_21_code 33 = .ok (.iadd, 1) := by decide +kernel
theorem d_MO_readNumber_34 : decode prog_12_method_21_code 34 = .ok (.aload_n 0, 1) := by decide +kernel
theorem d_MO_readNumber_35 : decode prog_12_method_21_code 35 = .ok (.getfield 39, 3) := by decide +kernel
theorem d_MO_readNumber_38 : decode prog_12_method_21_code 38 = .ok (.iload_n 1, 1) := by decide +kernel
theorem d_MO_readNumber_39 : decode prog_12_method_21_code 39 = .ok (.iaload, 1) := by decide +kernel
theorem d_MO_readNumber_40 : decode prog_12_method_21_code 40 = .ok (.iconst 1, 1) := by decide +kernel
theorem d_MO_readNumber_41 : decode prog_12_method_21_code 41 = .ok (.iadd, 1) := by decide +kernel
theorem d_MO_readNumber_42 : decode prog_12_method_21_code 42 = .ok (.iconst 2, 1) := by decide +kernel
theorem d_MO_readNumber_43 : decode prog_12_method_21_code 43 = .ok (.idiv, 1) := by decide +kernel
theorem d_MO_readNumber_44 : decode prog_12_method_21_code 44 = .ok (.iadd, 1) := by decide +kernel
theorem d_MO_readNumber_45 : decode prog_12_method_21_code 45 = .ok (.aload_n 0, 1) := by decide +kernel
theorem d_MO_readNumber_46 : decode prog_12_method_21_code 46 = .ok (.getfield 131, 3) := by decide +kernel
theorem d_MO_readNumber_49 : decode prog_12_method_21_code 49 = .ok (.if_icmp .le 5, 3) := by decide +kernel
theorem d_MO_readNumber_52 : decode prog_12_method_21_code 52 = .ok (.lconst 0, 1) := by decide +kernel
theorem d_MO_readNumber_53 : decode prog_12_method_21_code 53 = .ok (.lreturn, 1) := by decide +kernel
theorem d_MO_readNumber_54 : decode prog_12_method_21_code 54 = .ok (.lconst 0, 1) := by decide +kernel
theorem d_MO_readNumber_55 : decode prog_12_method_21_code 55 = .ok (.lstore_n 2, 1) := by decide +kernel
theorem d_MO_readNumber_56 : decode prog_12_method_21_code 56 = .ok (.iconst 0, 1) := by decide +kernel
theorem d_MO_readNumber_57 : decode prog_12_method_21_code 57 = .ok (.istore 4, 2) := by decide +kernel
theorem d_MO_readNumber_59 : decode prog_12_method_21_code 59 = .ok (.iload 4, 2) := by decide +kernel
theorem d_MO_readNumber_61 : decode prog_12_method_21_code 61 = .ok (.aload_n 0, 1) := by decide +kernel
theorem d_MO_readNumber_62 : decode prog_12_method_21_code 62 = .ok (.getfield 39, 3) := by decide +kernel
theorem d_MO_readNumber_65 : decode prog_12_method_21_code 65 = .ok (.iload_n 1, 1) := by decide +kernel
theorem d_MO_readNumber_66 : decode prog_12_method_21_code 66 = .ok (.iaload, 1) := by decide +kernel
theorem d_MO_readNumber_67 : decode prog_12_method_21_code 67 = .ok (.if_icmp .ge 53, 3) := by decide +kernel
theorem d_MO_readNumber_70 : decode prog_12_method_21_code 70 = .ok (.aload_n 0, 1) := by decide +kernel
theorem d_MO_readNumber_71 : decode prog_12_method_21_code 71 = .ok (.getfield 39, 3) := by decide +kernel
theorem d_MO_readNumber_74 : decode prog_12_method_21_code 74 = .ok (.iload_n 1, 1) := by decide +kernel
theorem d_MO_readNumber_75 : decode prog_12_method_21_code 75 = .ok (.iconst 2, 1) := by decide +kernel
theorem d_MO_readNumber_76 : decode prog_12_method_21_code 76 = .ok (.iadd, 1) := by decide +kernel
theorem d_MO_readNumber_77 : decode prog_12_method_21_code 77 = .ok (.iload 4, 2) := by decide +kernel
theorem d_MO_readNumber_79 : decode prog_12_method_21_code 79 = .ok (.iconst 2, 1) := by decide +kernel
theorem d_MO_readNumber_80 : decode prog_12_method_21_code 80 = .ok (.idiv, 1) := by decide +kernel
theorem d_MO_readNumber_81 : decode prog_12_method_21_code 81 = .ok (.iadd, 1) := by decide +kernel
theorem d_MO_readNumber_82 : decode prog_12_method_21_code 82 = .ok (.iaload, 1) := by decide +kernel
theorem d_MO_readNumber_83 : decode prog_12_method_21_code 83 = .ok (.iconst 4, 1) := by decide +kernel
theorem d_MO_readNumber_84 : decode prog_12_method_21_code 84 = .ok (.iload 4, 2) := by decide +kernel
theorem d_MO_readNumber_86 : decode prog_12_method_21_code 86 = .ok (.iconst 2, 1) := by decide +kernel
theorem d_MO_readNumber_87 : decode prog_12_method_21_code 87 = .ok (.irem, 1) := by decide +kernel
theorem d_MO_readNumber_88 : decode prog_12_method_21_code 88 = .ok (.imul, 1) := by decide +kernel
theorem d_MO_readNumber_89 : decode prog_12_method_21_code 89 = .ok (.ishr, 1) := by decide +kernel
theorem d_MO_readNumber_90 : decode prog_12_method_21_code 90 = .ok (.bipush 15, 2) := by decide +kernel
theorem d_MO_readNumber_92 : decode prog_12_method_21_code 92 = .ok (.iand, 1) := by decide +kernel
theorem d_MO_readNumber_93 : decode prog_12_method_21_code 93 = .ok (.istore 5, 2) := by decide +kernel
theorem d_MO_readNumber_95 : decode prog_12_method_21_code 95 = .ok (.iload 5, 2) := by decide +kernel
theorem d_MO_readNumber_97 : decode prog_12_method_21_code 97 = .ok (.bipush 9, 2) := by decide +kernel
theorem d_MO_readNumber_99 : decode prog_12_method_21_code 99 = .ok (.if_icmp .le 5, 3) := by decide +kernel
theorem d_MO_readNumber_102 : decode prog_12_method_21_code 102 = .ok (.lconst 0, 1) := by decide +kernel
theorem d_MO_readNumber_103 : decode prog_12_method_21_code 103 = .ok (.lreturn, 1) := by decide +kernel
theorem d_MO_readNumber_104 : decode prog_12_method_21_code 104 = .ok (.lload_n 2, 1) := by decide +kernel
theorem d_MO_readNumber_105 : decode prog_12_method_21_code 105 = .ok (.ldc2_w 134, 3) := by decide +kernel
theorem d_MO_readNumber_108 : decode prog_12_method_21_code 108 = .ok (.lmul, 1) := by decide +kernel
theorem d_MO_readNumber_109 : decode prog_12_method_21_code 109 = .ok (.iload 5, 2) := by decide +kernel
theorem d_MO_readNumber_111 : decode prog_12_method_21_code 111 = .ok (.i2l, 1) := by decide +kernel
theorem d_MO_readNumber_112 : decode prog_12_method_21_code 112 = .ok (.ladd, 1) := by decide +kernel
theorem d_MO_readNumber_113 : decode prog_12_method_21_code 113 = .ok (.lstore_n 2, 1) := by decide +kernel
theorem d_MO_readNumber_114 : decode prog_12_method_21_code 114 = .ok (.iinc 4 1, 3) := by decide +kernel
theorem d_MO_readNumber_117 : decode prog_12_method_21_code 117 = .ok (.goto (-58), 3) := by decide +kernel
theorem d_MO_readNumber_120 : decode prog_12_method_21_code 120 = .ok (.lload_n 2, 1) := by decide +kernel
theorem d_MO_readNumber_121 : decode prog_12_method_21_code 121 = .ok (.lreturn, 1) := by decide +kernel
theorem d_MO_legal_0 : decode prog_12_method_22_code 0 = .ok (.aload_n 0, 1) := by decide +kernel
theorem d_MO_legal_1 : decode prog_12_method_22_code 1 = .ok (.getfield 131, 3) := by decide +kernel
theorem d_MO_legal_4 : decode prog_12_method_22_code 4 = .ok (.iconst 3, 1) := by decide +kernel
theorem d_MO_legal_5 : decode prog_12_method_22_code 5 = .ok (.if_icmp .ge 7, 3) := by decide +kernel
theorem d_MO_legal_8 : decode prog_12_method_22_code 8 = .ok (.lconst 0, 1) := by decide +kernel
theorem d_MO_legal_9 : decode prog_12_method_22_code 9 = .ok (.goto 8, 3) := by decide +kernel
theorem d_MO_legal_12 : decode prog_12_method_22_code 12 = .ok (.aload_n 0, 1) := by decide +kernel
theorem d_MO_legal_13 : decode prog_12_method_22_code 13 = .ok (.iconst 2, 1) := by decide +kernel
theorem d_MO_legal_14 : decode prog_12_method_22_code 14 = .ok (.invokevirtual 170, 3) := by decide +kernel
theorem d_MO_legal_17 : decode prog_12_method_22_code 17 = .ok (.lstore_n 1, 1) := by decide +kernel
theorem d_MO_legal_18 : decode prog_12_method_22_code 18 = .ok (.lload_n 1, 1) := by decide +kernel
theorem d_MO_legal_19 : decode prog_12_method_22_code 19 = .ok (.lconst 0, 1) := by decide +kernel
theorem d_MO_legal_20 : decode prog_12_method_22_code 20 = .ok (.lcmp, 1) := by decide +kernel
theorem d_MO_legal_21 : decode prog_12_method_22_code 21 = .ok (.ifCond .ne 7, 3) := by decide +kernel
theorem d_MO_legal_24 : decode prog_12_method_22_code 24 = .ok (.iconst 0, 1) := by decide +kernel
theorem d_MO_legal_25 : decode prog_12_method_22_code 25 = .ok (.goto 16, 3) := by decide +kernel
theorem d_MO_legal_28 : decode prog_12_method_22_code 28 = .ok (.bipush 7, 2) := by decide +kernel
theorem d_MO_legal_30 : decode prog_12_method_22_code 30 = .ok (.aload_n 0, 1) := by decide +kernel
theorem d_MO_legal_31 : decode prog_12_method_22_code 31 = .ok (.getfield 39, 3) := by decide +kernel
theorem d_MO_legal_34 : decode prog_12_method_22_code 34 = .ok (.iconst 2, 1) := by decide +kernel
theorem d_MO_legal_35 : decode prog_12_method_22_code 35 = .ok (.iaload, 1) := by decide +kernel
theorem d_MO_legal_36 : decode prog_12_method_22_code 36 = .ok (.iconst 1, 1) := by decide +kernel
theorem d_MO_legal_37 : decode prog_12_method_22_code 37 = .ok (.iadd, 1) := by decide +kernel
theorem d_MO_legal_38 : decode prog_12_method_22_code 38 = .ok (.iconst 2, 1) := by decide +kernel
theorem d_MO_legal_39 : decode prog_12_method_22_code 39 = .ok (.idiv, 1) := by decide +kernel
theorem d_MO_legal_40 : decode prog_12_method_22_code 40 = .ok (.iadd, 1) := by decide +kernel
theorem d_MO_legal_41 : decode prog_12_method_22_code 41 = .ok (.istore_n 3, 1) := by decide +kernel
theorem d_MO_legal_42 : decode prog_12_method_22_code 42 = .ok (.lload_n 1, 1) := by decide +kernel
theorem d_MO_legal_43 : decode prog_12_method_22_code 43 = .ok (.lconst 0, 1) := by decide +kernel
theorem d_MO_legal_44 : decode prog_12_method_22_code 44 = .ok (.lcmp, 1) := by decide +kernel
theorem d_MO_legal_45 : decode prog_12_method_22_code 45 = .ok (.ifCond .eq 43, 3) := by decide +kernel
theorem d_MO_legal_48 : decode prog_12_method_22_code 48 = .ok (.iload_n 3, 1) := by decide +kernel
theorem d_MO_legal_49 : decode prog_12_method_22_code 49 = .ok (.aload_n 0, 1) := by decide +kernel
theorem d_MO_legal_50 : decode prog_12_method_22_code 50 = .ok (.getfield 131, 3) := by decide +kernel
theorem d_MO_legal_53 : decode prog_12_method_22_code 53 = .ok (.if_icmp .ge 35, 3) := by decide +kernel
theorem d_MO_legal_56 : decode prog_12_method_22_code 56 = .ok (.aload_n 0, 1) := by decide +kernel
theorem d_MO_legal_57 : decode prog_12_method_22_code 57 = .ok (.getfield 39, 3) := by decide +kernel
theorem d_MO_legal_60 : decode prog_12_method_22_code 60 = .ok (.iload_n 3, 1) := by decide +kernel
theorem d_MO_legal_61 : decode prog_12_method_22_code 61 = .ok (.iaload, 1) := by decide +kernel
theorem d_MO_legal_62 : decode prog_12_method_22_code 62 = .ok (.sipush 160, 3) := by decide +kernel
theorem d_MO_legal_65 : decode prog_12_method_22_code 65 = .ok (.if_icmp .gt 23, 3) := by decide +kernel
theorem d_MO_legal_68 : decode prog_12_method_22_code 68 = .ok (.iload_n 3, 1) := by decide +kernel
theorem d_MO_legal_69 : decode prog_12_method_22_code 69 = .ok (.iconst 1, 1) := by decide +kernel
theorem d_MO_legal_70 : decode prog_12_method_22_code 70 = .ok (.iadd, 1) := by decide +kernel
theorem d_MO_legal_71 : decode prog_12_method_22_code 71 = .ok (.aload_n 0, 1) := by decide +kernel
theorem d_MO_legal_72 : decode prog_12_method_22_code 72 = .ok (.getfield 39, 3) := by decide +kernel
theorem d_MO_legal_75 : decode prog_12_method_22_code 75 = .ok (.iload_n 3, 1) := by decide +kernel
theorem d_MO_legal_76 : decode prog_12_method_22_code 76 = .ok (.iaload, 1) := by decide +kernel
theorem d_MO_legal_77 : decode prog_12_method_22_code 77 = .ok (.invokestatic 148, 3) := by decide +kernel
theorem d_MO_legal_80 : decode prog_12_method_22_code 80 = .ok (.iadd, 1) := by decide +kernel
theorem d_MO_legal_81 : decode prog_12_method_22_code 81 = .ok (.aload_n 0, 1) := by decide +kernel
theorem d_MO_legal_82 : decode prog_12_method_22_code 82 = .ok (.getfield 131, 3) := by decide +kernel
theorem d_MO_legal_85 : decode prog_12_method_22_code 85 = .ok (.if_icmp .eq 5, 3) := by decide +kernel
theorem d_MO_legal_88 : decode prog_12_method_22_code 88 = .ok (.iconst (-1), 1) := by decide +kernel
theorem d_MO_legal_89 : decode prog_12_method_22_code 89 = .ok (.ireturn, 1) := by decide +kernel
theorem d_MO_legal_90 : decode prog_12_method_22_code 90 = .ok (.aload_n 0, 1) := by decide +kernel
theorem d_MO_legal_91 : decode prog_12_method_22_code 91 = .ok (.getfield 39, 3) := by decide +kernel
theorem d_MO_legal_94 : decode prog_12_method_22_code 94 = .ok (.iconst 0, 1) := by decide +kernel
theorem d_MO_legal_95 : decode prog_12_method_22_code 95 = .ok (.iaload, 1) := by decide +kernel
theorem d_MO_legal_96 : decode prog_12_method_22_code 96 = .ok (.bipush 64, 2) := by decide +kernel
theorem d_MO_legal_98 : decode prog_12_method_22_code 98 = .ok (.iand, 1) := by decide +kernel
theorem d_MO_legal_99 : decode prog_12_method_22_code 99 = .ok (.ifCond .eq 7, 3) := by decide +kernel
theorem d_MO_legal_102 : decode prog_12_method_22_code 102 = .ok (.iconst 1, 1) := by decide +kernel
theorem d_MO_legal_103 : decode prog_12_method_22_code 103 = .ok (.goto 4, 3) := by decide +kernel
theorem d_MO_legal_106 : decode prog_12_method_22_code 106 = .ok (.iconst 0, 1) := by decide +kernel
theorem d_MO_legal_107 : decode prog_12_method_22_code 107 = .ok (.istore 4, 2) := by decide +kernel
theorem d_MO_legal_109 : decode prog_12_method_22_code 109 = .ok (.iload 4, 2) := by decide +kernel
theorem d_MO_legal_111 : decode prog_12_method_22_code 111 = .ok (.ifCond .eq 14, 3) := by decide +kernel
theorem d_MO_legal_114 : decode prog_12_method_22_code 114 = .ok (.aload_n 0, 1) := by decide +kernel
theorem d_MO_legal_115 : decode prog_12_method_22_code 115 = .ok (.getfield 39, 3) := by decide +kernel
theorem d_MO_legal_118 : decode prog_12_method_22_code 118 = .ok (.iload_n 3, 1) := by decide +kernel
theorem d_MO_legal_119 : decode prog_12_method_22_code 119 = .ok (.iaload, 1) := by decide +kernel
theorem d_MO_legal_120 : decode prog_12_method_22_code 120 = .ok (.bipush 7, 2) := by decide +kernel
theorem d_MO_legal_122 : decode prog_12_method_22_code 122 = .ok (.if_icmp .lt 17, 3) := by decide +kernel
theorem d_MO_legal_125 : decode prog_12_method_22_code 125 = .ok (.aload_n 0, 1) := by decide +kernel
theorem d_MO_legal_126 : decode prog_12_method_22_code 126 = .ok (.getfield 39, 3) := by decide +kernel
theorem d_MO_legal_129 : decode prog_12_method_22_code 129 = .ok (.iload_n 3, 1) := by decide +kernel
theorem d_MO_legal_130 : decode prog_12_method_22_code 130 = .ok (.iconst 1, 1) := by decide +kernel
theorem d_MO_legal_131 : decode prog_12_method_22_code 131 = .ok (.isub, 1) := by decide +kernel
theorem d_MO_legal_132 : decode prog_12_method_22_code 132 = .ok (.iaload, 1) := by decide +kernel
theorem d_MO_legal_133 : decode prog_12_method_22_code 133 = .ok (.sipush 143, 3) := by decide +kernel
theorem d_MO_legal_136 : decode prog_12_method_22_code 136 = .ok (.if_icmp .le 5, 3) := by decide +kernel
theorem d_MO_legal_139 : decode prog_12_method_22_code 139 = .ok (.iconst (-1), 1) := by decide +kernel
theorem d_MO_legal_140 : decode prog_12_method_22_code 140 = .ok (.ireturn, 1) := by decide +kernel
theorem d_MO_legal_141 : decode prog_12_method_22_code 141 = .ok (.iload 4, 2) := by decide +kernel
theorem d_MO_legal_143 : decode prog_12_method_22_code 143 = .ok (.ifCond .eq 64, 3) := by decide +kernel
theorem d_MO_legal_146 : decode prog_12_method_22_code 146 = .ok (.aload_n 0, 1) := by decide +kernel
theorem d_MO_legal_147 : decode prog_12_method_22_code 147 = .ok (.getfield 39, 3) := by decide +kernel
theorem d_MO_legal_150 : decode prog_12_method_22_code 150 = .ok (.iload_n 3, 1) := by decide +kernel
theorem d_MO_legal_151 : decode prog_12_method_22_code 151 = .ok (.iconst 5, 1) := by decide +kernel
theorem d_MO_legal_152 : decode prog_12_method_22_code 152 = .ok (.iadd, 1) := by decide +kernel
theorem d_MO_legal_153 : decode prog_12_method_22_code 153 = .ok (.iaload, 1) := by decide +kernel
theorem d_MO_legal_154 : decode prog_12_method_22_code 154 = .ok (.iconst 1, 1) := by decide +kernel
theorem d_MO_legal_155 : decode prog_12_method_22_code 155 = .ok (.if_icmp .lt 52, 3) := by decide +kernel
theorem d_MO_legal_158 : decode prog_12_method_22_code 158 = .ok (.aload_n 0, 1) := by decide +kernel
theorem d_MO_legal_159 : decode prog_12_method_22_code 159 = .ok (.getfield 39, 3) := by decide +kernel
theorem d_MO_legal_162 : decode prog_12_method_22_code 162 = .ok (.iload_n 3, 1) := by decide +kernel
theorem d_MO_legal_163 : decode prog_12_method_22_code 163 = .ok (.iconst 5, 1) := by decide +kernel
theorem d_MO_legal_164 : decode prog_12_method_22_code 164 = .ok (.iadd, 1) := by decide +kernel
theorem d_MO_legal_165 : decode prog_12_method_22_code 165 = .ok (.iaload, 1) := by decide +kernel
theorem d_MO_legal_166 : decode prog_12_method_22_code 166 = .ok (.iconst 3, 1) := by decide +kernel
theorem d_MO_legal_167 : decode prog_12_method_22_code 167 = .ok (.if_icmp .gt 40, 3) := by decide +kernel
theorem d_MO_legal_170 : decode prog_12_method_22_code 170 = .ok (.aload_n 0, 1) := by decide +kernel
theorem d_MO_legal_171 : decode prog_12_method_22_code 171 = .ok (.getfield 39, 3) := by decide +kernel
theorem d_MO_legal_174 : decode prog_12_method_22_code 174 = .ok (.iload_n 3, 1) := by decide +kernel
theorem d_MO_legal_175 : decode prog_12_method_22_code 175 = .ok (.bipush 6, 2) := by decide +kernel
theorem d_MO_legal_177 : decode prog_12_method_22_code 177 = .ok (.iadd, 1) := by decide +kernel
theorem d_MO_legal_178 : decode prog_12_method_22_code 178 = .ok (.iaload, 1) := by decide +kernel
theorem d_MO_legal_179 : decode prog_12_method_22_code 179 = .ok (.iconst 1, 1) := by decide +kernel
theorem d_MO_legal_180 : decode prog_12_method_22_code 180 = .ok (.if_icmp .lt 27, 3) := by decide +kernel
theorem d_MO_legal_183 : decode prog_12_method_22_code 183 = .ok (.aload_n 0, 1) := by decide +kernel
theorem d_MO_legal_184 : decode prog_12_method_22_code 184 = .ok (.getfield 39, 3) := by decide +kernel
theorem d_MO_legal_187 : decode prog_12_method_22_code 187 = .ok (.iload_n 3, 1) := by decide +kernel
theorem d_MO_legal_188 : decode prog_12_method_22_code 188 = .ok (.bipush 6, 2) := by decide +kernel
theorem d_MO_legal_190 : decode prog_12_method_22_code 190 = .ok (.iadd, 1) := by decide +kernel
theorem d_MO_legal_191 : decode prog_12_method_22_code 191 = .ok (.iaload, 1) := by decide +kernel
theorem d_MO_legal_192 : decode prog_12_method_22_code 192 = .ok (.aload_n 0, 1) := by decide +kernel
theorem d_MO_legal_193 : decode prog_12_method_22_code 193 = .ok (.getfield 39, 3) := by decide +kernel
theorem d_MO_legal_196 : decode prog_12_method_22_code 196 = .ok (.iload_n 3, 1) := by decide +kernel
theorem d_MO_legal_197 : decode prog_12_method_22_code 197 = .ok (.iconst 5, 1) := by decide +kernel
theorem d_MO_legal_198 : decode prog_12_method_22_code 198 = .ok (.iadd, 1) := by decide +kernel
theorem d_MO_legal_199 : decode prog_12_method_22_code 199 = .ok (.iaload, 1) := by decide +kernel
theorem d_MO_legal_200 : decode prog_12_method_22_code 200 = .ok (.if_icmp .gt 7, 3) := by decide +kernel
theorem d_MO_legal_203 : decode prog_12_method_22_code 203 = .ok (.iconst 1, 1) := by decide +kernel
theorem d_MO_legal_204 : decode prog_12_method_22_code 204 = .ok (.goto 4, 3) := by decide +kernel
theorem d_MO_legal_207 : decode prog_12_method_22_code 207 = .ok (.iconst 0, 1) := by decide +kernel
theorem d_MO_legal_208 : decode prog_12_method_22_code 208 = .ok (.istore 5, 2) := by decide +kernel
theorem d_MO_legal_210 : decode prog_12_method_22_code 210 = .ok (.aload_n 0, 1) := by decide +kernel
theorem d_MO_legal_211 : decode prog_12_method_22_code 211 = .ok (.iload_n 3, 1) := by decide +kernel
theorem d_MO_legal_212 : decode prog_12_method_22_code 212 = .ok (.iload 4, 2) := by decide +kernel
theorem d_MO_legal_214 : decode prog_12_method_22_code 214 = .ok (.invokevirtual 173, 3) := by decide +kernel
theorem d_MO_legal_217 : decode prog_12_method_22_code 217 = .ok (.iload 4, 2) := by decide +kernel
theorem d_MO_legal_219 : decode prog_12_method_22_code 219 = .ok (.ifCond .eq 8, 3) := by decide +kernel
theorem d_MO_legal_222 : decode prog_12_method_22_code 222 = .ok (.iload 5, 2) := by decide +kernel
theorem d_MO_legal_224 : decode prog_12_method_22_code 224 = .ok (.ifCond .eq 10, 3) := by decide +kernel
theorem d_MO_legal_227 : decode prog_12_method_22_code 227 = .ok (.aload_n 0, 1) := by decide +kernel
theorem d_MO_legal_228 : decode prog_12_method_22_code 228 = .ok (.invokevirtual 177, 3) := by decide +kernel
theorem d_MO_legal_231 : decode prog_12_method_22_code 231 = .ok (.ifCond .ne 5, 3) := by decide +kernel
theorem d_MO_legal_234 : decode prog_12_method_22_code 234 = .ok (.iconst (-1), 1) := by decide +kernel
theorem d_MO_legal_235 : decode prog_12_method_22_code 235 = .ok (.ireturn, 1) := by decide +kernel
theorem d_MO_legal_236 : decode prog_12_method_22_code 236 = .ok (.aload_n 0, 1) := by decide +kernel
theorem d_MO_legal_237 : decode prog_12_method_22_code 237 = .ok (.getfield 131, 3) := by decide +kernel
theorem d_MO_legal_240 : decode prog_12_method_22_code 240 = .ok (.istore 6, 2) := by decide +kernel
theorem d_MO_legal_242 : decode prog_12_method_22_code 242 = .ok (.iconst 0, 1) := by decide +kernel
theorem d_MO_legal_243 : decode prog_12_method_22_code 243 = .ok (.invokestatic 159, 3) := by decide +kernel
theorem d_MO_legal_246 : decode prog_12_method_22_code 246 = .ok (.istore 7, 2) := by decide +kernel
theorem d_MO_legal_248 : decode prog_12_method_22_code 248 = .ok (.aload_n 0, 1) := by decide +kernel
theorem d_MO_legal_249 : decode prog_12_method_22_code 249 = .ok (.aload_n 0, 1) := by decide +kernel
theorem d_MO_legal_250 : decode prog_12_method_22_code 250 = .ok (.getfield 39, 3) := by decide +kernel
theorem d_MO_legal_253 : decode prog_12_method_22_code 253 = .ok (.iconst 0, 1) := by decide +kernel
theorem d_MO_legal_254 : decode prog_12_method_22_code 254 = .ok (.iaload, 1) := by decide +kernel
theorem d_MO_legal_255 : decode prog_12_method_22_code 255 = .ok (.bipush 32, 2) := by decide +kernel
theorem d_MO_legal_257 : decode prog_12_method_22_code 257 = .ok (.iand, 1) := by decide +kernel
theorem d_MO_legal_258 : decode prog_12_method_22_code 258 = .ok (.ifCond .eq 7, 3) := by decide +kernel
theorem d_MO_legal_261 : decode prog_12_method_22_code 261 = .ok (.iconst 1, 1) := by decide +kernel
theorem d_MO_legal_262 : decode prog_12_method_22_code 262 = .ok (.goto 4, 3) := by decide +kernel
theorem d_MO_legal_265 : decode prog_12_method_22_code 265 = .ok (.iconst 0, 1) := by decide +kernel
theorem d_MO_legal_266 : decode prog_12_method_22_code 266 = .ok (.aload_n 0, 1) := by decide +kernel
theorem d_MO_legal_267 : decode prog_12_method_22_code 267 = .ok (.getfield 39, 3) := by decide +kernel
theorem d_MO_legal_270 : decode prog_12_method_22_code 270 = .ok (.iconst 1, 1) := by decide +kernel
theorem d_MO_legal_271 : decode prog_12_method_22_code 271 = .ok (.iaload, 1) := by decide +kernel
theorem d_MO_legal_272 : decode prog_12_method_22_code 272 = .ok (.lload_n 1, 1) := by decide +kernel
theorem d_MO_legal_273 : decode prog_12_method_22_code 273 = .ok (.aload_n 0, 1) := by decide +kernel
theorem d_MO_legal_274 : decode prog_12_method_22_code 274 = .ok (.getfield 39, 3) := by decide +kernel
theorem d_MO_legal_277 : decode prog_12_method_22_code 277 = .ok (.iload_n 3, 1) := by decide +kernel
theorem d_MO_legal_278 : decode prog_12_method_22_code 278 = .ok (.iconst 1, 1) := by decide +kernel
theorem d_MO_legal_279 : decode prog_12_method_22_code 279 = .ok (.isub, 1) := by decide +kernel
theorem d_MO_legal_280 : decode prog_12_method_22_code 280 = .ok (.iaload, 1) := by decide +kernel
theorem d_MO_legal_281 : decode prog_12_method_22_code 281 = .ok (.iconst 0, 1) := by decide +kernel
theorem d_MO_legal_282 : decode prog_12_method_22_code 282 = .ok (.aload_n 0, 1) := by decide +kernel
theorem d_MO_legal_283 : decode prog_12_method_22_code 283 = .ok (.getfield 124, 3) := by decide +kernel
theorem d_MO_legal_286 : decode prog_12_method_22_code 286 = .ok (.iload 4, 2) := by decide +kernel
theorem d_MO_legal_288 : decode prog_12_method_22_code 288 = .ok (.ifCond .eq 14, 3) := by decide +kernel
theorem d_MO_legal_291 : decode prog_12_method_22_code 291 = .ok (.aload_n 0, 1) := by decide +kernel
theorem d_MO_legal_292 : decode prog_12_method_22_code 292 = .ok (.getfield 39, 3) := by decide +kernel
theorem d_MO_legal_295 : decode prog_12_method_22_code 295 = .ok (.iload_n 3, 1) := by decide +kernel
theorem d_MO_legal_296 : decode prog_12_method_22_code 296 = .ok (.iconst 4, 1) := by decide +kernel
theorem d_MO_legal_297 : decode prog_12_method_22_code 297 = .ok (.iadd, 1) := by decide +kernel
theorem d_MO_legal_298 : decode prog_12_method_22_code 298 = .ok (.iaload, 1) := by decide +kernel
theorem d_MO_legal_299 : decode prog_12_method_22_code 299 = .ok (.goto 4, 3) := by decide +kernel
theorem d_MO_legal_302 : decode prog_12_method_22_code 302 = .ok (.iconst (-1), 1) := by decide +kernel
theorem d_MO_legal_303 : decode prog_12_method_22_code 303 = .ok (.iload 4, 2) := by decide +kernel
theorem d_MO_legal_305 : decode prog_12_method_22_code 305 = .ok (.ifCond .eq 14, 3) := by decide +kernel
theorem d_MO_legal_308 : decode prog_12_method_22_code 308 = .ok (.aload_n 0, 1) := by decide +kernel
theorem d_MO_legal_309 : decode prog_12_method_22_code 309 = .ok (.getfield 39, 3) := by decide +kernel
theorem d_MO_legal_312 : decode prog_12_method_22_code 312 = .ok (.iload_n 3, 1) := by decide +kernel
theorem d_MO_legal_313 : decode prog_12_method_22_code 313 = .ok (.iconst 5, 1) := by decide +kernel
theorem d_MO_legal_314 : decode prog_12_method_22_code 314 = .ok (.iadd, 1) := by decide +kernel
theorem d_MO_legal_315 : decode prog_12_method_22_code 315 = .ok (.iaload, 1) := by decide +kernel
theorem d_MO_legal_316 : decode prog_12_method_22_code 316 = .ok (.goto 4, 3) := by decide +kernel
theorem d_MO_legal_319 : decode prog_12_method_22_code 319 = .ok (.iconst 0, 1) := by decide +kernel
theorem d_MO_legal_320 : decode prog_12_method_22_code 320 = .ok (.iload 4, 2) := by decide +kernel
theorem d_MO_legal_322 : decode prog_12_method_22_code 322 = .ok (.ifCond .eq 15, 3) := by decide +kernel
theorem d_MO_legal_325 : decode prog_12_method_22_code 325 = .ok (.aload_n 0, 1) := by decide +kernel
theorem d_MO_legal_326 : decode prog_12_method_22_code 326 = .ok (.getfield 39, 3) := by decide +kernel
theorem d_MO_legal_329 : decode prog_12_method_22_code 329 = .ok (.iload_n 3, 1) := by decide +kernel
theorem d_MO_legal_330 : decode prog_12_method_22_code 330 = .ok (.bipush 6, 2) := by decide +kernel
theorem d_MO_legal_332 : decode prog_12_method_22_code 332 = .ok (.iadd, 1) := by decide +kernel
theorem d_MO_legal_333 : decode prog_12_method_22_code 333 = .ok (.iaload, 1) := by decide +kernel
theorem d_MO_legal_334 : decode prog_12_method_22_code 334 = .ok (.goto 4, 3) := by decide +kernel
theorem d_MO_legal_337 : decode prog_12_method_22_code 337 = .ok (.iconst 0, 1) := by decide +kernel
theorem d_MO_legal_338 : decode prog_12_method_22_code 338 = .ok (.invokevirtual 181, 3) := by decide +kernel
theorem d_MO_legal_341 : decode prog_12_method_22_code 341 = .ok (.aload_n 0, 1) := by decide +kernel
theorem d_MO_legal_342 : decode prog_12_method_22_code 342 = .ok (.getfield 131, 3) := by decide +kernel
theorem d_MO_legal_345 : decode prog_12_method_22_code 345 = .ok (.iload 6, 2) := by decide +kernel
theorem d_MO_legal_347 : decode prog_12_method_22_code 347 = .ok (.if_icmp .ne 7, 3) := by decide +kernel
theorem d_MO_legal_350 : decode prog_12_method_22_code 350 = .ok (.iconst 1, 1) := by decide +kernel
theorem d_MO_legal_351 : decode prog_12_method_22_code 351 = .ok (.goto 4, 3) := by decide +kernel
theorem d_MO_legal_354 : decode prog_12_method_22_code 354 = .ok (.iconst 0, 1) := by decide +kernel
theorem d_MO_legal_355 : decode prog_12_method_22_code 355 = .ok (.istore 8, 2) := by decide +kernel
theorem d_MO_legal_357 : decode prog_12_method_22_code 357 = .ok (.iconst 0, 1) := by decide +kernel
theorem d_MO_legal_358 : decode prog_12_method_22_code 358 = .ok (.istore 9, 2) := by decide +kernel
theorem d_MO_legal_360 : decode prog_12_method_22_code 360 = .ok (.iload 9, 2) := by decide +kernel
theorem d_MO_legal_362 : decode prog_12_method_22_code 362 = .ok (.iload 6, 2) := by decide +kernel
theorem d_MO_legal_364 : decode prog_12_method_22_code 364 = .ok (.if_icmp .ge 45, 3) := by decide +kernel
theorem d_MO_legal_367 : decode prog_12_method_22_code 367 = .ok (.iload 8, 2) := by decide +kernel
theorem d_MO_legal_369 : decode prog_12_method_22_code 369 = .ok (.ifCond .eq 31, 3) := by decide +kernel
theorem d_MO_legal_372 : decode prog_12_method_22_code 372 = .ok (.aload_n 0, 1) := by decide +kernel
theorem d_MO_legal_373 : decode prog_12_method_22_code 373 = .ok (.getfield 39, 3) := by decide +kernel
theorem d_MO_legal_376 : decode prog_12_method_22_code 376 = .ok (.iload 9, 2) := by decide +kernel
theorem d_MO_legal_378 : decode prog_12_method_22_code 378 = .ok (.iaload, 1) := by decide +kernel
theorem d_MO_legal_379 : decode prog_12_method_22_code 379 = .ok (.aload_n 0, 1) := by decide +kernel
theorem d_MO_legal_380 : decode prog_12_method_22_code 380 = .ok (.getfield 42, 3) := by decide +kernel
theorem d_MO_legal_383 : decode prog_12_method_22_code 383 = .ok (.sipush 160, 3) := by decide +kernel
theorem d_MO_legal_386 : decode prog_12_method_22_code 386 = .ok (.iload 7, 2) := by decide +kernel
theorem d_MO_legal_388 : decode prog_12_method_22_code 388 = .ok (.imul, 1) := by decide +kernel
theorem d_MO_legal_389 : decode prog_12_method_22_code 389 = .ok (.iload 9, 2) := by decide +kernel
theorem d_MO_legal_391 : decode prog_12_method_22_code 391 = .ok (.iadd, 1) := by decide +kernel
theorem d_MO_legal_392 : decode prog_12_method_22_code 392 = .ok (.iaload, 1) := by decide +kernel
theorem d_MO_legal_393 : decode prog_12_method_22_code 393 = .ok (.if_icmp .ne 7, 3) := by decide +kernel
theorem d_MO_legal_396 : decode prog_12_method_22_code 396 = .ok (.iconst 1, 1) := by decide +kernel
theorem d_MO_legal_397 : decode prog_12_method_22_code 397 = .ok (.goto 4, 3) := by decide +kernel
theorem d_MO_legal_400 : decode prog_12_method_22_code 400 = .ok (.iconst 0, 1) := by decide +kernel
theorem d_MO_legal_401 : decode prog_12_method_22_code 401 = .ok (.istore 8, 2) := by decide +kernel
theorem d_MO_legal_403 : decode prog_12_method_22_code 403 = .ok (.iinc 9 1, 3) := by decide +kernel
theorem d_MO_legal_406 : decode prog_12_method_22_code 406 = .ok (.goto (-46), 3) := by decide +kernel
theorem d_MO_legal_409 : decode prog_12_method_22_code 409 = .ok (.iload 8, 2) := by decide +kernel
theorem d_MO_legal_411 : decode prog_12_method_22_code 411 = .ok (.ifCond .eq 7, 3) := by decide +kernel
theorem d_MO_legal_414 : decode prog_12_method_22_code 414 = .ok (.iload_n 3, 1) := by decide +kernel
theorem d_MO_legal_415 : decode prog_12_method_22_code 415 = .ok (.goto 4, 3) := by decide +kernel
theorem d_MO_legal_418 : decode prog_12_method_22_code 418 = .ok (.iconst (-1), 1) := by decide +kernel
theorem d_MO_legal_419 : decode prog_12_method_22_code 419 = .ok (.ireturn, 1) := by decide +kernel
theorem d_MO_isDevice_0 : decode prog_12_method_23_code 0 = .ok (.iload_n 0, 1) := by decide +kernel
theorem d_MO_isDevice_1 : decode prog_12_method_23_code 1 = .ok (.ifCond .lt 12, 3) := by decide +kernel
theorem d_MO_isDevice_4 : decode prog_12_method_23_code 4 = .ok (.iload_n 0, 1) := by decide +kernel
theorem d_MO_isDevice_5 : decode prog_12_method_23_code 5 = .ok (.iconst 4, 1) := by decide +kernel
theorem d_MO_isDevice_6 : decode prog_12_method_23_code 6 = .ok (.if_icmp .ge 7, 3) := by decide +kernel
theorem d_MO_isDevice_9 : decode prog_12_method_23_code 9 = .ok (.iconst 1, 1) := by decide +kernel
theorem d_MO_isDevice_10 : decode prog_12_method_23_code 10 = .ok (.goto 4, 3) := by decide +kernel
theorem d_MO_isDevice_13 : decode prog_12_method_23_code 13 = .ok (.iconst 0, 1) := by decide +kernel
theorem d_MO_isDevice_14 : decode prog_12_method_23_code 14 = .ok (.ireturn, 1) := by decide +kernel
theorem d_MO_isNumber_0 : decode prog_12_method_24_code 0 = .ok (.lload_n 0, 1) := by decide +kernel
theorem d_MO_isNumber_1 : decode prog_12_method_24_code 1 = .ok (.lconst 1, 1) := by decide +kernel
theorem d_MO_isNumber_2 : decode prog_12_method_24_code 2 = .ok (.lcmp, 1) := by decide +kernel
theorem d_MO_isNumber_3 : decode prog_12_method_24_code 3 = .ok (.ifCond .lt 15, 3) := by decide +kernel
theorem d_MO_isNumber_6 : decode prog_12_method_24_code 6 = .ok (.lload_n 0, 1) := by decide +kernel
theorem d_MO_isNumber_7 : decode prog_12_method_24_code 7 = .ok (.ldc2_w 185, 3) := by decide +kernel
theorem d_MO_isNumber_10 : decode prog_12_method_24_code 10 = .ok (.lcmp, 1) := by decide +kernel
theorem d_MO_isNumber_11 : decode prog_12_method_24_code 11 = .ok (.ifCond .gt 7, 3) := by decide +kernel
theorem d_MO_isNumber_14 : decode prog_12_method_24_code 14 = .ok (.iconst 1, 1) := by decide +kernel
theorem d_MO_isNumber_15 : decode prog_12_method_24_code 15 = .ok (.goto 4, 3) := by decide +kernel
theorem d_MO_isNumber_18 : decode prog_12_method_24_code 18 = .ok (.iconst 0, 1) := by decide +kernel
theorem d_MO_isNumber_19 : decode prog_12_method_24_code 19 = .ok (.ireturn, 1) := by decide +kernel
theorem d_MO_register_0 : decode prog_12_method_25_code 0 = .ok (.iload_n 1, 1) := by decide +kernel
theorem d_MO_register_1 : decode prog_12_method_25_code 1 = .ok (.invokestatic 187, 3) := by decide +kernel
theorem d_MO_register_4 : decode prog_12_method_25_code 4 = .ok (.ifCond .eq 10, 3) := by decide +kernel
theorem d_MO_register_7 : decode prog_12_method_25_code 7 = .ok (.lload_n 2, 1) := by decide +kernel
theorem d_MO_register_8 : decode prog_12_method_25_code 8 = .ok (.invokestatic 191, 3) := by decide +kernel
theorem d_MO_register_11 : decode prog_12_method_25_code 11 = .ok (.ifCond .ne 5, 3) := by decide +kernel
theorem d_MO_register_14 : decode prog_12_method_25_code 14 = .ok (.iconst 0, 1) := by decide +kernel
theorem d_MO_register_15 : decode prog_12_method_25_code 15 = .ok (.ireturn, 1) := by decide +kernel
theorem d_MO_register_16 : decode prog_12_method_25_code 16 = .ok (.aload_n 0, 1) := by decide +kernel
theorem d_MO_register_17 : decode prog_12_method_25_code 17 = .ok (.getfield 16, 3) := by decide +kernel
theorem d_MO_register_20 : decode prog_12_method_25_code 20 = .ok (.iload_n 1, 1) := by decide +kernel
theorem d_MO_register_21 : decode prog_12_method_25_code 21 = .ok (.lload_n 2, 1) := by decide +kernel
theorem d_MO_register_22 : decode prog_12_method_25_code 22 = .ok (.lastore, 1) := by decide +kernel
theorem d_MO_register_23 : decode prog_12_method_25_code 23 = .ok (.iconst 1, 1) := by decide +kernel
theorem d_MO_register_24 : decode prog_12_method_25_code 24 = .ok (.ireturn, 1) := by decide +kernel
theorem d_MO_power1_0 : decode prog_12_method_26_code 0 = .ok (.iload_n 1, 1) := by decide +kernel
theorem d_MO_power1_1 : decode prog_12_method_26_code 1 = .ok (.invokestatic 187, 3) := by decide +kernel
theorem d_MO_power1_4 : decode prog_12_method_26_code 4 = .ok (.ifCond .ne 5, 3) := by decide +kernel
theorem d_MO_power1_7 : decode prog_12_method_26_code 7 = .ok (.iconst 0, 1) := by decide +kernel
theorem d_MO_power1_8 : decode prog_12_method_26_code 8 = .ok (.ireturn, 1) := by decide +kernel
theorem d_MO_power1_9 : decode prog_12_method_26_code 9 = .ok (.aload_n 0, 1) := by decide +kernel
theorem d_MO_power1_10 : decode prog_12_method_26_code 10 = .ok (.getfield 20, 3) := by decide +kernel
theorem d_MO_power1_13 : decode prog_12_method_26_code 13 = .ok (.iload_n 1, 1) := by decide +kernel
theorem d_MO_power1_14 : decode prog_12_method_26_code 14 = .ok (.iload_n 2, 1) := by decide +kernel
theorem d_MO_power1_15 : decode prog_12_method_26_code 15 = .ok (.bastore, 1) := by decide +kernel
theorem d_MO_power1_16 : decode prog_12_method_26_code 16 = .ok (.iconst 1, 1) := by decide +kernel
theorem d_MO_power1_17 : decode prog_12_method_26_code 17 = .ok (.ireturn, 1) := by decide +kernel
theorem d_MO_type_0 : decode prog_12_method_27_code 0 = .ok (.iload_n 2, 1) := by decide +kernel
theorem d_MO_type_1 : decode prog_12_method_27_code 1 = .ok (.iconst 1, 1) := by decide +kernel
theorem d_MO_type_2 : decode prog_12_method_27_code 2 = .ok (.if_icmp .lt 22, 3) := by decide +kernel
theorem d_MO_type_5 : decode prog_12_method_27_code 5 = .ok (.iload_n 2, 1) := by decide +kernel
theorem d_MO_type_6 : decode prog_12_method_27_code 6 = .ok (.sipush 160, 3) := by decide +kernel
theorem d_MO_type_9 : decode prog_12_method_27_code 9 = .ok (.if_icmp .gt 15, 3) := by decide +kernel
theorem d_MO_type_12 : decode prog_12_method_27_code 12 = .ok (.aload_n 0, 1) := by decide +kernel
theorem d_MO_type_13 : decode prog_12_method_27_code 13 = .ok (.getfield 195, 3) := by decide +kernel
theorem d_MO_type_16 : decode prog_12_method_27_code 16 = .ok (.iload_n 2, 1) := by decide +kernel
theorem d_MO_type_17 : decode prog_12_method_27_code 17 = .ok (.iadd, 1) := by decide +kernel
theorem d_MO_type_18 : decode prog_12_method_27_code 18 = .ok (.sipush 480, 3) := by decide +kernel
theorem d_MO_type_21 : decode prog_12_method_27_code 21 = .ok (.if_icmp .le 5, 3) := by decide +kernel
theorem d_MO_type_24 : decode prog_12_method_27_code 24 = .ok (.iconst 0, 1) := by decide +kernel
theorem d_MO_type_25 : decode prog_12_method_27_code 25 = .ok (.ireturn, 1) := by decide +kernel
theorem d_MO_type_26 : decode prog_12_method_27_code 26 = .ok (.iconst 0, 1) := by decide +kernel
theorem d_MO_type_27 : decode prog_12_method_27_code 27 = .ok (.istore_n 3, 1) := by decide +kernel
theorem d_MO_type_28 : decode prog_12_method_27_code 28 = .ok (.iload_n 3, 1) := by decide +kernel
theorem d_MO_type_29 : decode prog_12_method_27_code 29 = .ok (.iload_n 2, 1) := by decide +kernel
theorem d_MO_type_30 : decode prog_12_method_27_code 30 = .ok (.if_icmp .ge 29, 3) := by decide +kernel
theorem d_MO_type_33 : decode prog_12_method_27_code 33 = .ok (.aload_n 0, 1) := by decide +kernel
theorem d_MO_type_34 : decode prog_12_method_27_code 34 = .ok (.getfield 7, 3) := by decide +kernel
theorem d_MO_type_37 : decode prog_12_method_27_code 37 = .ok (.aload_n 0, 1) := by decide +kernel
theorem d_MO_type_38 : decode prog_12_method_27_code 38 = .ok (.getfield 195, 3) := by decide +kernel
theorem d_MO_type_41 : decode prog_12_method_27_code 41 = .ok (.iload_n 1, 1) := by decide +kernel
theorem d_MO_type_42 : decode prog_12_method_27_code 42 = .ok (.iastore, 1) := by decide +kernel
theorem d_MO_type_43 : decode prog_12_method_27_code 43 = .ok (.aload_n 0, 1) := by decide +kernel
theorem d_MO_type_44 : decode prog_12_method_27_code 44 = .ok (.dup, 1) := by decide +kernel
theorem d_MO_type_45 : decode prog_12_method_27_code 45 = .ok (.getfield 195, 3) := by decide +kernel
theorem d_MO_type_48 : decode prog_12_method_27_code 48 = .ok (.iconst 1, 1) := by decide +kernel
theorem d_MO_type_49 : decode prog_12_method_27_code 49 = .ok (.iadd, 1) := by decide +kernel
theorem d_MO_type_50 : decode prog_12_method_27_code 50 = .ok (.putfield 195, 3) := by decide +kernel
theorem d_MO_type_53 : decode prog_12_method_27_code 53 = .ok (.iinc 3 1, 3) := by decide +kernel
theorem d_MO_type_56 : decode prog_12_method_27_code 56 = .ok (.goto (-28), 3) := by decide +kernel
theorem d_MO_type_59 : decode prog_12_method_27_code 59 = .ok (.iconst 1, 1) := by decide +kernel
theorem d_MO_type_60 : decode prog_12_method_27_code 60 = .ok (.ireturn, 1) := by decide +kernel
theorem d_MO_wipe_0 : decode prog_12_method_28_code 0 = .ok (.aload_n 0, 1) := by decide +kernel
theorem d_MO_wipe_1 : decode prog_12_method_28_code 1 = .ok (.iconst 0, 1) := by decide +kernel
theorem d_MO_wipe_2 : decode prog_12_method_28_code 2 = .ok (.putfield 195, 3) := by decide +kernel
theorem d_MO_wipe_5 : decode prog_12_method_28_code 5 = .ok (.return_, 1) := by decide +kernel
end
section
theorem d_MO_cut_0 : decode prog_12_method_29_code 0 = .ok (.iload_n 1, 1) := by decide +kernel
theorem d_MO_cut_1 : decode prog_12_method_29_code 1 = .ok (.istore_n 2, 1) := by decide +kernel
theorem d_MO_cut_2 : decode prog_12_method_29_code 2 = .ok (.iload_n 2, 1) := by decide +kernel
theorem d_MO_cut_3 : decode prog_12_method_29_code 3 = .ok (.aload_n 0, 1) := by decide +kernel
theorem d_MO_cut_4 : decode prog_12_method_29_code 4 = .ok (.getfield 124, 3) := by decide +kernel
theorem d_MO_cut_7 : decode prog_12_method_29_code 7 = .ok (.if_icmp .ge 40, 3) := by decide +kernel
theorem d_MO_cut_10 : decode prog_12_method_29_code 10 = .ok (.aload_n 0, 1) := by decide +kernel
theorem d_MO_cut_11 : decode prog_12_method_29_code 11 = .ok (.getfield 13, 3) := by decide +kernel
theorem d_MO_cut_14 : decode prog_12_method_29_code 14 = .ok (.iload_n 2, 1) := by decide +kernel
theorem d_MO_cut_15 : decode prog_12_method_29_code 15 = .ok (.iaload, 1) := by decide +kernel
theorem d_MO_cut_16 : decode prog_12_method_29_code 16 = .ok (.bipush 27, 2) := by decide +kernel
theorem d_MO_cut_18 : decode prog_12_method_29_code 18 = .ok (.if_icmp .ne 9, 3) := by decide +kernel
theorem d_MO_cut_21 : decode prog_12_method_29_code 21 = .ok (.iload_n 2, 1) := by decide +kernel
theorem d_MO_cut_22 : decode prog_12_method_29_code 22 = .ok (.iconst 2, 1) := by decide +kernel
theorem d_MO_cut_23 : decode prog_12_method_29_code 23 = .ok (.iadd, 1) := by decide +kernel
theorem d_MO_cut_24 : decode prog_12_method_29_code 24 = .ok (.goto 6, 3) := by decide +kernel
theorem d_MO_cut_27 : decode prog_12_method_29_code 27 = .ok (.iload_n 2, 1) := by decide +kernel
theorem d_MO_cut_28 : decode prog_12_method_29_code 28 = .ok (.iconst 1, 1) := by decide +kernel
theorem d_MO_cut_29 : decode prog_12_method_29_code 29 = .ok (.iadd, 1) := by decide +kernel
theorem d_MO_cut_30 : decode prog_12_method_29_code 30 = .ok (.istore_n 3, 1) := by decide +kernel
theorem d_MO_cut_31 : decode prog_12_method_29_code 31 = .ok (.iload_n 3, 1) := by decide +kernel
theorem d_MO_cut_32 : decode prog_12_method_29_code 32 = .ok (.iload_n 1, 1) := by decide +kernel
theorem d_MO_cut_33 : decode prog_12_method_29_code 33 = .ok (.isub, 1) := by decide +kernel
theorem d_MO_cut_34 : decode prog_12_method_29_code 34 = .ok (.sipush 153, 3) := by decide +kernel
theorem d_MO_cut_37 : decode prog_12_method_29_code 37 = .ok (.if_icmp .le 5, 3) := by decide +kernel
theorem d_MO_cut_40 : decode prog_12_method_29_code 40 = .ok (.iload_n 2, 1) := by decide +kernel
theorem d_MO_cut_41 : decode prog_12_method_29_code 41 = .ok (.ireturn, 1) := by decide +kernel
theorem d_MO_cut_42 : decode prog_12_method_29_code 42 = .ok (.iload_n 3, 1) := by decide +kernel
theorem d_MO_cut_43 : decode prog_12_method_29_code 43 = .ok (.istore_n 2, 1) := by decide +kernel
theorem d_MO_cut_44 : decode prog_12_method_29_code 44 = .ok (.goto (-42), 3) := by decide +kernel
theorem d_MO_cut_47 : decode prog_12_method_29_code 47 = .ok (.iload_n 2, 1) := by decide +kernel
theorem d_MO_cut_48 : decode prog_12_method_29_code 48 = .ok (.ireturn, 1) := by decide +kernel
theorem d_MO_partsOf_0 : decode prog_12_method_30_code 0 = .ok (.iconst 0, 1) := by decide +kernel
theorem d_MO_partsOf_1 : decode prog_12_method_30_code 1 = .ok (.istore_n 1, 1) := by decide +kernel
theorem d_MO_partsOf_2 : decode prog_12_method_30_code 2 = .ok (.iconst 0, 1) := by decide +kernel
theorem d_MO_partsOf_3 : decode prog_12_method_30_code 3 = .ok (.istore_n 2, 1) := by decide +kernel
theorem d_MO_partsOf_4 : decode prog_12_method_30_code 4 = .ok (.iload_n 2, 1) := by decide +kernel
theorem d_MO_partsOf_5 : decode prog_12_method_30_code 5 = .ok (.aload_n 0, 1) := by decide +kernel
theorem d_MO_partsOf_6 : decode prog_12_method_30_code 6 = .ok (.getfield 124, 3) := by decide +kernel
theorem d_MO_partsOf_9 : decode prog_12_method_30_code 9 = .ok (.if_icmp .ge 15, 3) := by decide +kernel
theorem d_MO_partsOf_12 : decode prog_12_method_30_code 12 = .ok (.iinc 1 1, 3) := by decide +kernel
theorem d_MO_partsOf_15 : decode prog_12_method_30_code 15 = .ok (.aload_n 0, 1) := by decide +kernel
theorem d_MO_partsOf_16 : decode prog_12_method_30_code 16 = .ok (.iload_n 2, 1) := by decide +kernel
theorem d_MO_partsOf_17 : decode prog_12_method_30_code 17 = .ok (.invokevirtual 198, 3) := by decide +kernel
theorem d_MO_partsOf_20 : decode prog_12_method_30_code 20 = .ok (.istore_n 2, 1) := by decide +kernel
theorem d_MO_partsOf_21 : decode prog_12_method_30_code 21 = .ok (.goto (-17), 3) := by decide +kernel
theorem d_MO_partsOf_24 : decode prog_12_method_30_code 24 = .ok (.aload_n 0, 1) := by decide +kernel
theorem d_MO_partsOf_25 : decode prog_12_method_30_code 25 = .ok (.getfield 124, 3) := by decide +kernel
theorem d_MO_partsOf_28 : decode prog_12_method_30_code 28 = .ok (.sipush 160, 3) := by decide +kernel
theorem d_MO_partsOf_31 : decode prog_12_method_30_code 31 = .ok (.if_icmp .gt 7, 3) := by decide +kernel
theorem d_MO_partsOf_34 : decode prog_12_method_30_code 34 = .ok (.iconst 1, 1) := by decide +kernel
theorem d_MO_partsOf_35 : decode prog_12_method_30_code 35 = .ok (.goto 4, 3) := by decide +kernel
theorem d_MO_partsOf_38 : decode prog_12_method_30_code 38 = .ok (.iload_n 1, 1) := by decide +kernel
theorem d_MO_partsOf_39 : decode prog_12_method_30_code 39 = .ok (.ireturn, 1) := by decide +kernel
theorem d_MO_send_0 : decode prog_12_method_31_code 0 = .ok (.iload_n 1, 1) := by decide +kernel
theorem d_MO_send_1 : decode prog_12_method_31_code 1 = .ok (.invokestatic 187, 3) := by decide +kernel
theorem d_MO_send_4 : decode prog_12_method_31_code 4 = .ok (.ifCond .eq 34, 3) := by decide +kernel
theorem d_MO_send_7 : decode prog_12_method_31_code 7 = .ok (.lload_n 2, 1) := by decide +kernel
theorem d_MO_send_8 : decode prog_12_method_31_code 8 = .ok (.invokestatic 191, 3) := by decide +kernel
theorem d_MO_send_11 : decode prog_12_method_31_code 11 = .ok (.ifCond .eq 27, 3) := by decide +kernel
theorem d_MO_send_14 : decode prog_12_method_31_code 14 = .ok (.iload 4, 2) := by decide +kernel
theorem d_MO_send_16 : decode prog_12_method_31_code 16 = .ok (.ifCond .lt 22, 3) := by decide +kernel
theorem d_MO_send_19 : decode prog_12_method_31_code 19 = .ok (.iload 4, 2) := by decide +kernel
theorem d_MO_send_21 : decode prog_12_method_31_code 21 = .ok (.sipush 143, 3) := by decide +kernel
theorem d_MO_send_24 : decode prog_12_method_31_code 24 = .ok (.if_icmp .gt 14, 3) := by decide +kernel
theorem d_MO_send_27 : decode prog_12_method_31_code 27 = .ok (.aload_n 0, 1) := by decide +kernel
theorem d_MO_send_28 : decode prog_12_method_31_code 28 = .ok (.getfield 16, 3) := by decide +kernel
theorem d_MO_send_31 : decode prog_12_method_31_code 31 = .ok (.iload_n 1, 1) := by decide +kernel
theorem d_MO_send_32 : decode prog_12_method_31_code 32 = .ok (.laload, 1) := by decide +kernel
theorem d_MO_send_33 : decode prog_12_method_31_code 33 = .ok (.lconst 0, 1) := by decide +kernel
theorem d_MO_send_34 : decode prog_12_method_31_code 34 = .ok (.lcmp, 1) := by decide +kernel
theorem d_MO_send_35 : decode prog_12_method_31_code 35 = .ok (.ifCond .ne 5, 3) := by decide +kernel
theorem d_MO_send_38 : decode prog_12_method_31_code 38 = .ok (.iconst (-1), 1) := by decide +kernel
theorem d_MO_send_39 : decode prog_12_method_31_code 39 = .ok (.ireturn, 1) := by decide +kernel
theorem d_MO_send_40 : decode prog_12_method_31_code 40 = .ok (.aload_n 0, 1) := by decide +kernel
theorem d_MO_send_41 : decode prog_12_method_31_code 41 = .ok (.iconst 0, 1) := by decide +kernel
theorem d_MO_send_42 : decode prog_12_method_31_code 42 = .ok (.putfield 124, 3) := by decide +kernel
theorem d_MO_send_45 : decode prog_12_method_31_code 45 = .ok (.iconst 0, 1) := by decide +kernel
theorem d_MO_send_46 : decode prog_12_method_31_code 46 = .ok (.istore 6, 2) := by decide +kernel
theorem d_MO_send_48 : decode prog_12_method_31_code 48 = .ok (.iload 6, 2) := by decide +kernel
theorem d_MO_send_50 : decode prog_12_method_31_code 50 = .ok (.aload_n 0, 1) := by decide +kernel
theorem d_MO_send_51 : decode prog_12_method_31_code 51 = .ok (.getfield 195, 3) := by decide +kernel
theorem d_MO_send_54 : decode prog_12_method_31_code 54 = .ok (.if_icmp .ge 30, 3) := by decide +kernel
theorem d_MO_send_57 : decode prog_12_method_31_code 57 = .ok (.aload_n 0, 1) := by decide +kernel
theorem d_MO_send_58 : decode prog_12_method_31_code 58 = .ok (.aload_n 0, 1) := by decide +kernel
theorem d_MO_send_59 : decode prog_12_method_31_code 59 = .ok (.getfield 7, 3) := by decide +kernel
theorem d_MO_send_62 : decode prog_12_method_31_code 62 = .ok (.iload 6, 2) := by decide +kernel
theorem d_MO_send_64 : decode prog_12_method_31_code 64 = .ok (.iaload, 1) := by decide +kernel
theorem d_MO_send_65 : decode prog_12_method_31_code 65 = .ok (.invokevirtual 201, 3) := by decide +kernel
theorem d_MO_send_68 : decode prog_12_method_31_code 68 = .ok (.istore 7, 2) := by decide +kernel
theorem d_MO_send_70 : decode prog_12_method_31_code 70 = .ok (.iload 7, 2) := by decide +kernel
theorem d_MO_send_72 : decode prog_12_method_31_code 72 = .ok (.ifCond .ne 6, 3) := by decide +kernel
theorem d_MO_send_75 : decode prog_12_method_31_code 75 = .ok (.bipush (-4), 2) := by decide +kernel
theorem d_MO_send_77 : decode prog_12_method_31_code 77 = .ok (.ireturn, 1) := by decide +kernel
theorem d_MO_send_78 : decode prog_12_method_31_code 78 = .ok (.iinc 6 1, 3) := by decide +kernel
theorem d_MO_send_81 : decode prog_12_method_31_code 81 = .ok (.goto (-33), 3) := by decide +kernel
theorem d_MO_send_84 : decode prog_12_method_31_code 84 = .ok (.aload_n 0, 1) := by decide +kernel
theorem d_MO_send_85 : decode prog_12_method_31_code 85 = .ok (.invokevirtual 204, 3) := by decide +kernel
theorem d_MO_send_88 : decode prog_12_method_31_code 88 = .ok (.istore 6, 2) := by decide +kernel
theorem d_MO_send_90 : decode prog_12_method_31_code 90 = .ok (.iload 6, 2) := by decide +kernel
theorem d_MO_send_92 : decode prog_12_method_31_code 92 = .ok (.iconst 3, 1) := by decide +kernel
theorem d_MO_send_93 : decode prog_12_method_31_code 93 = .ok (.if_icmp .le 6, 3) := by decide +kernel
theorem d_MO_send_96 : decode prog_12_method_31_code 96 = .ok (.bipush (-5), 2) := by decide +kernel
theorem d_MO_send_98 : decode prog_12_method_31_code 98 = .ok (.ireturn, 1) := by decide +kernel
theorem d_MO_send_99 : decode prog_12_method_31_code 99 = .ok (.aload_n 0, 1) := by decide +kernel
theorem d_MO_send_100 : decode prog_12_method_31_code 100 = .ok (.getfield 51, 3) := by decide +kernel
theorem d_MO_send_103 : decode prog_12_method_31_code 103 = .ok (.iconst 0, 1) := by decide +kernel
theorem d_MO_send_104 : decode prog_12_method_31_code 104 = .ok (.iaload, 1) := by decide +kernel
theorem d_MO_send_105 : decode prog_12_method_31_code 105 = .ok (.iload 6, 2) := by decide +kernel
theorem d_MO_send_107 : decode prog_12_method_31_code 107 = .ok (.iadd, 1) := by decide +kernel
theorem d_MO_send_108 : decode prog_12_method_31_code 108 = .ok (.bipush 8, 2) := by decide +kernel
theorem d_MO_send_110 : decode prog_12_method_31_code 110 = .ok (.if_icmp .le 6, 3) := by decide +kernel
theorem d_MO_send_113 : decode prog_12_method_31_code 113 = .ok (.bipush (-3), 2) := by decide +kernel
theorem d_MO_send_115 : decode prog_12_method_31_code 115 = .ok (.ireturn, 1) := by decide +kernel
theorem d_MO_send_116 : decode prog_12_method_31_code 116 = .ok (.iconst 0, 1) := by decide +kernel
theorem d_MO_send_117 : decode prog_12_method_31_code 117 = .ok (.istore 7, 2) := by decide +kernel
theorem d_MO_send_119 : decode prog_12_method_31_code 119 = .ok (.iconst 1, 1) := by decide +kernel
theorem d_MO_send_120 : decode prog_12_method_31_code 120 = .ok (.istore 8, 2) := by decide +kernel
theorem d_MO_send_122 : decode prog_12_method_31_code 122 = .ok (.iload 8, 2) := by decide +kernel
theorem d_MO_send_124 : decode prog_12_method_31_code 124 = .ok (.iload 6, 2) := by decide +kernel
theorem d_MO_send_126 : decode prog_12_method_31_code 126 = .ok (.if_icmp .gt 100, 3) := by decide +kernel
theorem d_MO_send_129 : decode prog_12_method_31_code 129 = .ok (.iload 6, 2) := by decide +kernel
theorem d_MO_send_131 : decode prog_12_method_31_code 131 = .ok (.iconst 1, 1) := by decide +kernel
theorem d_MO_send_132 : decode prog_12_method_31_code 132 = .ok (.if_icmp .ne 10, 3) := by decide +kernel
theorem d_MO_send_135 : decode prog_12_method_31_code 135 = .ok (.aload_n 0, 1) := by decide +kernel
theorem d_MO_send_136 : decode prog_12_method_31_code 136 = .ok (.getfield 124, 3) := by decide +kernel
theorem d_MO_send_139 : decode prog_12_method_31_code 139 = .ok (.goto 9, 3) := by decide +kernel
theorem d_MO_send_142 : decode prog_12_method_31_code 142 = .ok (.aload_n 0, 1) := by decide +kernel
theorem d_MO_send_143 : decode prog_12_method_31_code 143 = .ok (.iload 7, 2) := by decide +kernel
theorem d_MO_send_145 : decode prog_12_method_31_code 145 = .ok (.invokevirtual 198, 3) := by decide +kernel
theorem d_MO_send_148 : decode prog_12_method_31_code 148 = .ok (.istore 9, 2) := by decide +kernel
theorem d_MO_send_150 : decode prog_12_method_31_code 150 = .ok (.aload_n 0, 1) := by decide +kernel
theorem d_MO_send_151 : decode prog_12_method_31_code 151 = .ok (.iload 5, 2) := by decide +kernel
theorem d_MO_send_153 : decode prog_12_method_31_code 153 = .ok (.aload_n 0, 1) := by decide +kernel
theorem d_MO_send_154 : decode prog_12_method_31_code 154 = .ok (.getfield 24, 3) := by decide +kernel
theorem d_MO_send_157 : decode prog_12_method_31_code 157 = .ok (.iload_n 1, 1) := by decide +kernel
theorem d_MO_send_158 : decode prog_12_method_31_code 158 = .ok (.iaload, 1) := by decide +kernel
theorem d_MO_send_159 : decode prog_12_method_31_code 159 = .ok (.lload_n 2, 1) := by decide +kernel
theorem d_MO_send_160 : decode prog_12_method_31_code 160 = .ok (.iload 4, 2) := by decide +kernel
theorem d_MO_send_162 : decode prog_12_method_31_code 162 = .ok (.iload 7, 2) := by decide +kernel
theorem d_MO_send_164 : decode prog_12_method_31_code 164 = .ok (.iload 9, 2) := by decide +kernel
theorem d_MO_send_166 : decode prog_12_method_31_code 166 = .ok (.iload 7, 2) := by decide +kernel
theorem d_MO_send_168 : decode prog_12_method_31_code 168 = .ok (.isub, 1) := by decide +kernel
theorem d_MO_send_169 : decode prog_12_method_31_code 169 = .ok (.iload 6, 2) := by decide +kernel
theorem d_MO_send_171 : decode prog_12_method_31_code 171 = .ok (.iconst 1, 1) := by decide +kernel
theorem d_MO_send_172 : decode prog_12_method_31_code 172 = .ok (.if_icmp .ne 7, 3) := by decide +kernel
theorem d_MO_send_175 : decode prog_12_method_31_code 175 = .ok (.iconst (-1), 1) := by decide +kernel
theorem d_MO_send_176 : decode prog_12_method_31_code 176 = .ok (.goto 9, 3) := by decide +kernel
theorem d_MO_send_179 : decode prog_12_method_31_code 179 = .ok (.aload_n 0, 1) := by decide +kernel
theorem d_MO_send_180 : decode prog_12_method_31_code 180 = .ok (.getfield 27, 3) := by decide +kernel
theorem d_MO_send_183 : decode prog_12_method_31_code 183 = .ok (.iload_n 1, 1) := by decide +kernel
theorem d_MO_send_184 : decode prog_12_method_31_code 184 = .ok (.iaload, 1) := by decide +kernel
theorem d_MO_send_185 : decode prog_12_method_31_code 185 = .ok (.iload 6, 2) := by decide +kernel
theorem d_MO_send_187 : decode prog_12_method_31_code 187 = .ok (.iload 8, 2) := by decide +kernel
theorem d_MO_send_189 : decode prog_12_method_31_code 189 = .ok (.invokevirtual 181, 3) := by decide +kernel
theorem d_MO_send_192 : decode prog_12_method_31_code 192 = .ok (.aload_n 0, 1) := by decide +kernel
theorem d_MO_send_193 : decode prog_12_method_31_code 193 = .ok (.iconst 0, 1) := by decide +kernel
theorem d_MO_send_194 : decode prog_12_method_31_code 194 = .ok (.iload_n 1, 1) := by decide +kernel
theorem d_MO_send_195 : decode prog_12_method_31_code 195 = .ok (.invokevirtual 208, 3) := by decide +kernel
theorem d_MO_send_198 : decode prog_12_method_31_code 198 = .ok (.aload_n 0, 1) := by decide +kernel
theorem d_MO_send_199 : decode prog_12_method_31_code 199 = .ok (.getfield 24, 3) := by decide +kernel
theorem d_MO_send_202 : decode prog_12_method_31_code 202 = .ok (.iload_n 1, 1) := by decide +kernel
theorem d_MO_send_203 : decode prog_12_method_31_code 203 = .ok (.aload_n 0, 1) := by decide +kernel
theorem d_MO_send_204 : decode prog_12_method_31_code 204 = .ok (.getfield 24, 3) := by decide +kernel
theorem d_MO_send_207 : decode prog_12_method_31_code 207 = .ok (.iload_n 1, 1) := by decide +kernel
theorem d_MO_send_208 : decode prog_12_method_31_code 208 = .ok (.iaload, 1) := by decide +kernel
theorem d_MO_send_209 : decode prog_12_method_31_code 209 = .ok (.iconst 1, 1) := by decide +kernel
theorem d_MO_send_210 : decode prog_12_method_31_code 210 = .ok (.iadd, 1) := by decide +kernel
theorem d_MO_send_211 : decode prog_12_method_31_code 211 = .ok (.sipush 256, 3) := by decide +kernel
theorem d_MO_send_214 : decode prog_12_method_31_code 214 = .ok (.irem, 1) := by decide +kernel
theorem d_MO_send_215 : decode prog_12_method_31_code 215 = .ok (.iastore, 1) := by decide +kernel
theorem d_MO_send_216 : decode prog_12_method_31_code 216 = .ok (.iload 9, 2) := by decide +kernel
theorem d_MO_send_218 : decode prog_12_method_31_code 218 = .ok (.istore 7, 2) := by decide +kernel
theorem d_MO_send_220 : decode prog_12_method_31_code 220 = .ok (.iinc 8 1, 3) := by decide +kernel
theorem d_MO_send_223 : decode prog_12_method_31_code 223 = .ok (.goto (-101), 3) := by decide +kernel
theorem d_MO_send_226 : decode prog_12_method_31_code 226 = .ok (.aload_n 0, 1) := by decide +kernel
theorem d_MO_send_227 : decode prog_12_method_31_code 227 = .ok (.getfield 27, 3) := by decide +kernel
theorem d_MO_send_230 : decode prog_12_method_31_code 230 = .ok (.iload_n 1, 1) := by decide +kernel
theorem d_MO_send_231 : decode prog_12_method_31_code 231 = .ok (.iload 6, 2) := by decide +kernel
theorem d_MO_send_233 : decode prog_12_method_31_code 233 = .ok (.iconst 1, 1) := by decide +kernel
theorem d_MO_send_234 : decode prog_12_method_31_code 234 = .ok (.if_icmp .ne 12, 3) := by decide +kernel
theorem d_MO_send_237 : decode prog_12_method_31_code 237 = .ok (.aload_n 0, 1) := by decide +kernel
theorem d_MO_send_238 : decode prog_12_method_31_code 238 = .ok (.getfield 27, 3) := by decide +kernel
theorem d_MO_send_241 : decode prog_12_method_31_code 241 = .ok (.iload_n 1, 1) := by decide +kernel
theorem d_MO_send_242 : decode prog_12_method_31_code 242 = .ok (.iaload, 1) := by decide +kernel
theorem d_MO_send_243 : decode prog_12_method_31_code 243 = .ok (.goto 15, 3) := by decide +kernel
theorem d_MO_send_246 : decode prog_12_method_31_code 246 = .ok (.aload_n 0, 1) := by decide +kernel
theorem d_MO_send_247 : decode prog_12_method_31_code 247 = .ok (.getfield 27, 3) := by decide +kernel
theorem d_MO_send_250 : decode prog_12_method_31_code 250 = .ok (.iload_n 1, 1) := by decide +kernel
theorem d_MO_send_251 : decode prog_12_method_31_code 251 = .ok (.iaload, 1) := by decide +kernel
theorem d_MO_send_252 : decode prog_12_method_31_code 252 = .ok (.iconst 1, 1) := by decide +kernel
theorem d_MO_send_253 : decode prog_12_method_31_code 253 = .ok (.iadd, 1) := by decide +kernel
theorem d_MO_send_254 : decode prog_12_method_31_code 254 = .ok (.sipush 256, 3) := by decide +kernel
theorem d_MO_send_257 : decode prog_12_method_31_code 257 = .ok (.irem, 1) := by decide +kernel
theorem d_MO_send_258 : decode prog_12_method_31_code 258 = .ok (.iastore, 1) := by decide +kernel
theorem d_MO_send_259 : decode prog_12_method_31_code 259 = .ok (.iload 6, 2) := by decide +kernel
theorem d_MO_send_261 : decode prog_12_method_31_code 261 = .ok (.ireturn, 1) := by decide +kernel
theorem d_MO_alter_0 : decode prog_12_method_32_code 0 = .ok (.aload_n 0, 1) := by decide +kernel
theorem d_MO_alter_1 : decode prog_12_method_32_code 1 = .ok (.getfield 51, 3) := by decide +kernel
theorem d_MO_alter_4 : decode prog_12_method_32_code 4 = .ok (.iconst 0, 1) := by decide +kernel
theorem d_MO_alter_5 : decode prog_12_method_32_code 5 = .ok (.iaload, 1) := by decide +kernel
theorem d_MO_alter_6 : decode prog_12_method_32_code 6 = .ok (.ifCond .eq 29, 3) := by decide +kernel
theorem d_MO_alter_9 : decode prog_12_method_32_code 9 = .ok (.iload_n 1, 1) := by decide +kernel
theorem d_MO_alter_10 : decode prog_12_method_32_code 10 = .ok (.ifCond .lt 25, 3) := by decide +kernel
theorem d_MO_alter_13 : decode prog_12_method_32_code 13 = .ok (.iload_n 1, 1) := by decide +kernel
theorem d_MO_alter_14 : decode prog_12_method_32_code 14 = .ok (.aload_n 0, 1) := by decide +kernel
theorem d_MO_alter_15 : decode prog_12_method_32_code 15 = .ok (.getfield 45, 3) := by decide +kernel
theorem d_MO_alter_18 : decode prog_12_method_32_code 18 = .ok (.iconst 0, 1) := by decide +kernel
theorem d_MO_alter_19 : decode prog_12_method_32_code 19 = .ok (.iaload, 1) := by decide +kernel
theorem d_MO_alter_20 : decode prog_12_method_32_code 20 = .ok (.if_icmp .ge 15, 3) := by decide +kernel
theorem d_MO_alter_23 : decode prog_12_method_32_code 23 = .ok (.iload_n 2, 1) := by decide +kernel
theorem d_MO_alter_24 : decode prog_12_method_32_code 24 = .ok (.iconst 1, 1) := by decide +kernel
theorem d_MO_alter_25 : decode prog_12_method_32_code 25 = .ok (.if_icmp .lt 10, 3) := by decide +kernel
theorem d_MO_alter_28 : decode prog_12_method_32_code 28 = .ok (.iload_n 2, 1) := by decide +kernel
theorem d_MO_alter_29 : decode prog_12_method_32_code 29 = .ok (.sipush 255, 3) := by decide +kernel
theorem d_MO_alter_32 : decode prog_12_method_32_code 32 = .ok (.if_icmp .le 5, 3) := by decide +kernel
theorem d_MO_alter_35 : decode prog_12_method_32_code 35 = .ok (.iconst 0, 1) := by decide +kernel
theorem d_MO_alter_36 : decode prog_12_method_32_code 36 = .ok (.ireturn, 1) := by decide +kernel
theorem d_MO_alter_37 : decode prog_12_method_32_code 37 = .ok (.aload_n 0, 1) := by decide +kernel
theorem d_MO_alter_38 : decode prog_12_method_32_code 38 = .ok (.getfield 42, 3) := by decide +kernel
theorem d_MO_alter_41 : decode prog_12_method_32_code 41 = .ok (.iload_n 1, 1) := by decide +kernel
theorem d_MO_alter_42 : decode prog_12_method_32_code 42 = .ok (.aload_n 0, 1) := by decide +kernel
theorem d_MO_alter_43 : decode prog_12_method_32_code 43 = .ok (.getfield 42, 3) := by decide +kernel
theorem d_MO_alter_46 : decode prog_12_method_32_code 46 = .ok (.iload_n 1, 1) := by decide +kernel
theorem d_MO_alter_47 : decode prog_12_method_32_code 47 = .ok (.iaload, 1) := by decide +kernel
theorem d_MO_alter_48 : decode prog_12_method_32_code 48 = .ok (.iload_n 2, 1) := by decide +kernel
theorem d_MO_alter_49 : decode prog_12_method_32_code 49 = .ok (.ixor, 1) := by decide +kernel
theorem d_MO_alter_50 : decode prog_12_method_32_code 50 = .ok (.iastore, 1) := by decide +kernel
theorem d_MO_alter_51 : decode prog_12_method_32_code 51 = .ok (.iconst 1, 1) := by decide +kernel
theorem d_MO_alter_52 : decode prog_12_method_32_code 52 = .ok (.ireturn, 1) := by decide +kernel
theorem d_MO_receive_0 : decode prog_12_method_33_code 0 = .ok (.aload_n 0, 1) := by decide +kernel
theorem d_MO_receive_1 : decode prog_12_method_33_code 1 = .ok (.getfield 51, 3) := by decide +kernel
theorem d_MO_receive_4 : decode prog_12_method_33_code 4 = .ok (.iconst 0, 1) := by decide +kernel
theorem d_MO_receive_5 : decode prog_12_method_33_code 5 = .ok (.iaload, 1) := by decide +kernel
theorem d_MO_receive_6 : decode prog_12_method_33_code 6 = .ok (.ifCond .ne 6, 3) := by decide +kernel
theorem d_MO_receive_9 : decode prog_12_method_33_code 9 = .ok (.bipush (-2), 2) := by decide +kernel
theorem d_MO_receive_11 : decode prog_12_method_33_code 11 = .ok (.ireturn, 1) := by decide +kernel
theorem d_MO_receive_12 : decode prog_12_method_33_code 12 = .ok (.aload_n 0, 1) := by decide +kernel
theorem d_MO_receive_13 : decode prog_12_method_33_code 13 = .ok (.getfield 211, 3) := by decide +kernel
theorem d_MO_receive_16 : decode prog_12_method_33_code 16 = .ok (.bipush 12, 2) := by decide +kernel
theorem d_MO_receive_18 : decode prog_12_method_33_code 18 = .ok (.if_icmp .eq 12, 3) := by decide +kernel
theorem d_MO_receive_21 : decode prog_12_method_33_code 21 = .ok (.aload_n 0, 1) := by decide +kernel
theorem d_MO_receive_22 : decode prog_12_method_33_code 22 = .ok (.getfield 214, 3) := by decide +kernel
theorem d_MO_receive_25 : decode prog_12_method_33_code 25 = .ok (.bipush 100, 2) := by decide +kernel
theorem d_MO_receive_27 : decode prog_12_method_33_code 27 = .ok (.if_icmp .ne 6, 3) := by decide +kernel
theorem d_MO_receive_30 : decode prog_12_method_33_code 30 = .ok (.bipush (-3), 2) := by decide +kernel
theorem d_MO_receive_32 : decode prog_12_method_33_code 32 = .ok (.ireturn, 1) := by decide +kernel
theorem d_MO_receive_33 : decode prog_12_method_33_code 33 = .ok (.aload_n 0, 1) := by decide +kernel
theorem d_MO_receive_34 : decode prog_12_method_33_code 34 = .ok (.iconst 0, 1) := by decide +kernel
theorem d_MO_receive_35 : decode prog_12_method_33_code 35 = .ok (.invokevirtual 217, 3) := by decide +kernel
theorem d_MO_receive_38 : decode prog_12_method_33_code 38 = .ok (.aload_n 0, 1) := by decide +kernel
theorem d_MO_receive_39 : decode prog_12_method_33_code 39 = .ok (.invokevirtual 220, 3) := by decide +kernel
theorem d_MO_receive_42 : decode prog_12_method_33_code 42 = .ok (.istore_n 1, 1) := by decide +kernel
theorem d_MO_receive_43 : decode prog_12_method_33_code 43 = .ok (.aload_n 0, 1) := by decide +kernel
theorem d_MO_receive_44 : decode prog_12_method_33_code 44 = .ok (.getfield 48, 3) := by decide +kernel
theorem d_MO_receive_47 : decode prog_12_method_33_code 47 = .ok (.iconst 0, 1) := by decide +kernel
theorem d_MO_receive_48 : decode prog_12_method_33_code 48 = .ok (.iaload, 1) := by decide +kernel
theorem d_MO_receive_49 : decode prog_12_method_33_code 49 = .ok (.istore_n 2, 1) := by decide +kernel
theorem d_MO_receive_50 : decode prog_12_method_33_code 50 = .ok (.aload_n 0, 1) := by decide +kernel
theorem d_MO_receive_51 : decode prog_12_method_33_code 51 = .ok (.iconst 0, 1) := by decide +kernel
theorem d_MO_receive_52 : decode prog_12_method_33_code 52 = .ok (.invokevirtual 217, 3) := by decide +kernel
theorem d_MO_receive_55 : decode prog_12_method_33_code 55 = .ok (.aload_n 0, 1) := by decide +kernel
theorem d_MO_receive_56 : decode prog_12_method_33_code 56 = .ok (.iconst 0, 1) := by decide +kernel
theorem d_MO_receive_57 : decode prog_12_method_33_code 57 = .ok (.invokevirtual 223, 3) := by decide +kernel
theorem d_MO_receive_60 : decode prog_12_method_33_code 60 = .ok (.iload_n 1, 1) := by decide +kernel
theorem d_MO_receive_61 : decode prog_12_method_33_code 61 = .ok (.ifCond .ge 6, 3) := by decide +kernel
theorem d_MO_receive_64 : decode prog_12_method_33_code 64 = .ok (.bipush (-6), 2) := by decide +kernel
theorem d_MO_receive_66 : decode prog_12_method_33_code 66 = .ok (.ireturn, 1) := by decide +kernel
theorem d_MO_receive_67 : decode prog_12_method_33_code 67 = .ok (.aload_n 0, 1) := by decide +kernel
theorem d_MO_receive_68 : decode prog_12_method_33_code 68 = .ok (.getfield 214, 3) := by decide +kernel
theorem d_MO_receive_71 : decode prog_12_method_33_code 71 = .ok (.istore_n 3, 1) := by decide +kernel
theorem d_MO_receive_72 : decode prog_12_method_33_code 72 = .ok (.aload_n 0, 1) := by decide +kernel
theorem d_MO_receive_73 : decode prog_12_method_33_code 73 = .ok (.dup, 1) := by decide +kernel
theorem d_MO_receive_74 : decode prog_12_method_33_code 74 = .ok (.getfield 214, 3) := by decide +kernel
theorem d_MO_receive_77 : decode prog_12_method_33_code 77 = .ok (.iconst 1, 1) := by decide +kernel
theorem d_MO_receive_78 : decode prog_12_method_33_code 78 = .ok (.iadd, 1) := by decide +kernel
theorem d_MO_receive_79 : decode prog_12_method_33_code 79 = .ok (.putfield 214, 3) := by decide +kernel
theorem d_MO_receive_82 : decode prog_12_method_33_code 82 = .ok (.aload_n 0, 1) := by decide +kernel
theorem d_MO_receive_83 : decode prog_12_method_33_code 83 = .ok (.dup, 1) := by decide +kernel
theorem d_MO_receive_84 : decode prog_12_method_33_code 84 = .ok (.getfield 211, 3) := by decide +kernel
theorem d_MO_receive_87 : decode prog_12_method_33_code 87 = .ok (.iconst 1, 1) := by decide +kernel
theorem d_MO_receive_88 : decode prog_12_method_33_code 88 = .ok (.iadd, 1) := by decide +kernel
theorem d_MO_receive_89 : decode prog_12_method_33_code 89 = .ok (.putfield 211, 3) := by decide +kernel
theorem d_MO_receive_92 : decode prog_12_method_33_code 92 = .ok (.aload_n 0, 1) := by decide +kernel
theorem d_MO_receive_93 : decode prog_12_method_33_code 93 = .ok (.getfield 54, 3) := by decide +kernel
theorem d_MO_receive_96 : decode prog_12_method_33_code 96 = .ok (.iload_n 3, 1) := by decide +kernel
theorem d_MO_receive_97 : decode prog_12_method_33_code 97 = .ok (.iload_n 2, 1) := by decide +kernel
theorem d_MO_receive_98 : decode prog_12_method_33_code 98 = .ok (.iastore, 1) := by decide +kernel
theorem d_MO_receive_99 : decode prog_12_method_33_code 99 = .ok (.aload_n 0, 1) := by decide +kernel
theorem d_MO_receive_100 : decode prog_12_method_33_code 100 = .ok (.getfield 57, 3) := by decide +kernel
theorem d_MO_receive_103 : decode prog_12_method_33_code 103 = .ok (.iload_n 3, 1) := by decide +kernel
theorem d_MO_receive_104 : decode prog_12_method_33_code 104 = .ok (.aload_n 0, 1) := by decide +kernel
theorem d_MO_receive_105 : decode prog_12_method_33_code 105 = .ok (.getfield 39, 3) := by decide +kernel
theorem d_MO_receive_108 : decode prog_12_method_33_code 108 = .ok (.iconst 1, 1) := by decide +kernel
theorem d_MO_receive_109 : decode prog_12_method_33_code 109 = .ok (.iaload, 1) := by decide +kernel
theorem d_MO_receive_110 : decode prog_12_method_33_code 110 = .ok (.iastore, 1) := by decide +kernel
theorem d_MO_receive_111 : decode prog_12_method_33_code 111 = .ok (.aload_n 0, 1) := by decide +kernel
theorem d_MO_receive_112 : decode prog_12_method_33_code 112 = .ok (.getfield 60, 3) := by decide +kernel
theorem d_MO_receive_115 : decode prog_12_method_33_code 115 = .ok (.iload_n 3, 1) := by decide +kernel
theorem d_MO_receive_116 : decode prog_12_method_33_code 116 = .ok (.aload_n 0, 1) := by decide +kernel
theorem d_MO_receive_117 : decode prog_12_method_33_code 117 = .ok (.getfield 16, 3) := by decide +kernel
theorem d_MO_receive_120 : decode prog_12_method_33_code 120 = .ok (.iload_n 2, 1) := by decide +kernel
theorem d_MO_receive_121 : decode prog_12_method_33_code 121 = .ok (.laload, 1) := by decide +kernel
theorem d_MO_receive_122 : decode prog_12_method_33_code 122 = .ok (.lastore, 1) := by decide +kernel
theorem d_MO_receive_123 : decode prog_12_method_33_code 123 = .ok (.aload_n 0, 1) := by decide +kernel
theorem d_MO_receive_124 : decode prog_12_method_33_code 124 = .ok (.getfield 63, 3) := by decide +kernel
theorem d_MO_receive_127 : decode prog_12_method_33_code 127 = .ok (.iload_n 3, 1) := by decide +kernel
theorem d_MO_receive_128 : decode prog_12_method_33_code 128 = .ok (.aload_n 0, 1) := by decide +kernel
theorem d_MO_receive_129 : decode prog_12_method_33_code 129 = .ok (.iconst 2, 1) := by decide +kernel
theorem d_MO_receive_130 : decode prog_12_method_33_code 130 = .ok (.invokevirtual 170, 3) := by decide +kernel
theorem d_MO_receive_133 : decode prog_12_method_33_code 133 = .ok (.lastore, 1) := by decide +kernel
theorem d_MO_receive_134 : decode prog_12_method_33_code 134 = .ok (.aload_n 0, 1) := by decide +kernel
theorem d_MO_receive_135 : decode prog_12_method_33_code 135 = .ok (.getfield 66, 3) := by decide +kernel
theorem d_MO_receive_138 : decode prog_12_method_33_code 138 = .ok (.iload_n 3, 1) := by decide +kernel
theorem d_MO_receive_139 : decode prog_12_method_33_code 139 = .ok (.aload_n 0, 1) := by decide +kernel
theorem d_MO_receive_140 : decode prog_12_method_33_code 140 = .ok (.getfield 39, 3) := by decide +kernel
theorem d_MO_receive_143 : decode prog_12_method_33_code 143 = .ok (.iconst 0, 1) := by decide +kernel
theorem d_MO_receive_144 : decode prog_12_method_33_code 144 = .ok (.iaload, 1) := by decide +kernel
theorem d_MO_receive_145 : decode prog_12_method_33_code 145 = .ok (.bipush 32, 2) := by decide +kernel
theorem d_MO_receive_147 : decode prog_12_method_33_code 147 = .ok (.iand, 1) := by decide +kernel
theorem d_MO_receive_148 : decode prog_12_method_33_code 148 = .ok (.ifCond .eq 7, 3) := by decide +kernel
theorem d_MO_receive_151 : decode prog_12_method_33_code 151 = .ok (.iconst 1, 1) := by decide +kernel
theorem d_MO_receive_152 : decode prog_12_method_33_code 152 = .ok (.goto 4, 3) := by decide +kernel
theorem d_MO_receive_155 : decode prog_12_method_33_code 155 = .ok (.iconst 0, 1) := by decide +kernel
theorem d_MO_receive_156 : decode prog_12_method_33_code 156 = .ok (.bastore, 1) := by decide +kernel
theorem d_MO_receive_157 : decode prog_12_method_33_code 157 = .ok (.aload_n 0, 1) := by decide +kernel
theorem d_MO_receive_158 : decode prog_12_method_33_code 158 = .ok (.getfield 69, 3) := by decide +kernel
theorem d_MO_receive_161 : decode prog_12_method_33_code 161 = .ok (.iload_n 3, 1) := by decide +kernel
theorem d_MO_receive_162 : decode prog_12_method_33_code 162 = .ok (.aload_n 0, 1) := by decide +kernel
theorem d_MO_receive_163 : decode prog_12_method_33_code 163 = .ok (.getfield 39, 3) := by decide +kernel
theorem d_MO_receive_166 : decode prog_12_method_33_code 166 = .ok (.iconst 0, 1) := by decide +kernel
theorem d_MO_receive_167 : decode prog_12_method_33_code 167 = .ok (.iaload, 1) := by decide +kernel
theorem d_MO_receive_168 : decode prog_12_method_33_code 168 = .ok (.bipush 64, 2) := by decide +kernel
theorem d_MO_receive_170 : decode prog_12_method_33_code 170 = .ok (.iand, 1) := by decide +kernel
theorem d_MO_receive_171 : decode prog_12_method_33_code 171 = .ok (.ifCond .eq 7, 3) := by decide +kernel
theorem d_MO_receive_174 : decode prog_12_method_33_code 174 = .ok (.iconst 1, 1) := by decide +kernel
theorem d_MO_receive_175 : decode prog_12_method_33_code 175 = .ok (.goto 4, 3) := by decide +kernel
theorem d_MO_receive_178 : decode prog_12_method_33_code 178 = .ok (.iconst 0, 1) := by decide +kernel
theorem d_MO_receive_179 : decode prog_12_method_33_code 179 = .ok (.bastore, 1) := by decide +kernel
theorem d_MO_receive_180 : decode prog_12_method_33_code 180 = .ok (.aload_n 0, 1) := by decide +kernel
theorem d_MO_receive_181 : decode prog_12_method_33_code 181 = .ok (.getfield 72, 3) := by decide +kernel
theorem d_MO_receive_184 : decode prog_12_method_33_code 184 = .ok (.iload_n 3, 1) := by decide +kernel
theorem d_MO_receive_185 : decode prog_12_method_33_code 185 = .ok (.aload_n 0, 1) := by decide +kernel
theorem d_MO_receive_186 : decode prog_12_method_33_code 186 = .ok (.getfield 226, 3) := by decide +kernel
theorem d_MO_receive_189 : decode prog_12_method_33_code 189 = .ok (.iastore, 1) := by decide +kernel
theorem d_MO_receive_190 : decode prog_12_method_33_code 190 = .ok (.aload_n 0, 1) := by decide +kernel
theorem d_MO_receive_191 : decode prog_12_method_33_code 191 = .ok (.getfield 75, 3) := by decide +kernel
theorem d_MO_receive_194 : decode prog_12_method_33_code 194 = .ok (.iload_n 3, 1) := by decide +kernel
theorem d_MO_receive_195 : decode prog_12_method_33_code 195 = .ok (.aload_n 0, 1) := by decide +kernel
theorem d_MO_receive_196 : decode prog_12_method_33_code 196 = .ok (.getfield 226, 3) := by decide +kernel
theorem d_MO_receive_199 : decode prog_12_method_33_code 199 = .ok (.iconst 5, 1) := by decide +kernel
theorem d_MO_receive_200 : decode prog_12_method_33_code 200 = .ok (.aload_n 0, 1) := by decide +kernel
theorem d_MO_receive_201 : decode prog_12_method_33_code 201 = .ok (.getfield 39, 3) := by decide +kernel
theorem d_MO_receive_204 : decode prog_12_method_33_code 204 = .ok (.iload_n 1, 1) := by decide +kernel
theorem d_MO_receive_205 : decode prog_12_method_33_code 205 = .ok (.iconst 1, 1) := by decide +kernel
theorem d_MO_receive_206 : decode prog_12_method_33_code 206 = .ok (.isub, 1) := by decide +kernel
theorem d_MO_receive_207 : decode prog_12_method_33_code 207 = .ok (.iaload, 1) := by decide +kernel
theorem d_MO_receive_208 : decode prog_12_method_33_code 208 = .ok (.iconst 1, 1) := by decide +kernel
theorem d_MO_receive_209 : decode prog_12_method_33_code 209 = .ok (.iadd, 1) := by decide +kernel
theorem d_MO_receive_210 : decode prog_12_method_33_code 210 = .ok (.imul, 1) := by decide +kernel
theorem d_MO_receive_211 : decode prog_12_method_33_code 211 = .ok (.iadd, 1) := by decide +kernel
theorem d_MO_receive_212 : decode prog_12_method_33_code 212 = .ok (.iastore, 1) := by decide +kernel
theorem d_MO_receive_213 : decode prog_12_method_33_code 213 = .ok (.aload_n 0, 1) := by decide +kernel
theorem d_MO_receive_214 : decode prog_12_method_33_code 214 = .ok (.getfield 78, 3) := by decide +kernel
theorem d_MO_receive_217 : decode prog_12_method_33_code 217 = .ok (.iload_n 3, 1) := by decide +kernel
theorem d_MO_receive_218 : decode prog_12_method_33_code 218 = .ok (.aload_n 0, 1) := by decide +kernel
theorem d_MO_receive_219 : decode prog_12_method_33_code 219 = .ok (.getfield 226, 3) := by decide +kernel
theorem d_MO_receive_222 : decode prog_12_method_33_code 222 = .ok (.iastore, 1) := by decide +kernel
theorem d_MO_receive_223 : decode prog_12_method_33_code 223 = .ok (.aload_n 0, 1) := by decide +kernel
theorem d_MO_receive_224 : decode prog_12_method_33_code 224 = .ok (.iload_n 3, 1) := by decide +kernel
theorem d_MO_receive_225 : decode prog_12_method_33_code 225 = .ok (.iload_n 1, 1) := by decide +kernel
theorem d_MO_receive_226 : decode prog_12_method_33_code 226 = .ok (.invokevirtual 229, 3) := by decide +kernel
theorem d_MO_receive_229 : decode prog_12_method_33_code 229 = .ok (.iload_n 3, 1) := by decide +kernel
theorem d_MO_receive_230 : decode prog_12_method_33_code 230 = .ok (.ireturn, 1) := by decide +kernel
theorem d_MO_keepData_0 : decode prog_12_method_34_code 0 = .ok (.iconst 0, 1) := by decide +kernel
theorem d_MO_keepData_1 : decode prog_12_method_34_code 1 = .ok (.istore_n 3, 1) := by decide +kernel
theorem d_MO_keepData_2 : decode prog_12_method_34_code 2 = .ok (.aload_n 0, 1) := by decide +kernel
theorem d_MO_keepData_3 : decode prog_12_method_34_code 3 = .ok (.getfield 90, 3) := by decide +kernel
theorem d_MO_keepData_6 : decode prog_12_method_34_code 6 = .ok (.iload_n 3, 1) := by decide +kernel
theorem d_MO_keepData_7 : decode prog_12_method_34_code 7 = .ok (.baload, 1) := by decide +kernel
theorem d_MO_keepData_8 : decode prog_12_method_34_code 8 = .ok (.ifCond .eq 9, 3) := by decide +kernel
theorem d_MO_keepData_11 : decode prog_12_method_34_code 11 = .ok (.iinc 3 1, 3) := by decide +kernel
theorem d_MO_keepData_14 : decode prog_12_method_34_code 14 = .ok (.goto (-12), 3) := by decide +kernel
theorem d_MO_keepData_17 : decode prog_12_method_34_code 17 = .ok (.aload_n 0, 1) := by decide +kernel
theorem d_MO_keepData_18 : decode prog_12_method_34_code 18 = .ok (.getfield 90, 3) := by decide +kernel
theorem d_MO_keepData_21 : decode prog_12_method_34_code 21 = .ok (.iload_n 3, 1) := by decide +kernel
theorem d_MO_keepData_22 : decode prog_12_method_34_code 22 = .ok (.iconst 1, 1) := by decide +kernel
theorem d_MO_keepData_23 : decode prog_12_method_34_code 23 = .ok (.bastore, 1) := by decide +kernel
theorem d_MO_keepData_24 : decode prog_12_method_34_code 24 = .ok (.aload_n 0, 1) := by decide +kernel
theorem d_MO_keepData_25 : decode prog_12_method_34_code 25 = .ok (.getfield 87, 3) := by decide +kernel
theorem d_MO_keepData_28 : decode prog_12_method_34_code 28 = .ok (.iload_n 1, 1) := by decide +kernel
theorem d_MO_keepData_29 : decode prog_12_method_34_code 29 = .ok (.iload_n 3, 1) := by decide +kernel
theorem d_MO_keepData_30 : decode prog_12_method_34_code 30 = .ok (.iastore, 1) := by decide +kernel
theorem d_MO_keepData_31 : decode prog_12_method_34_code 31 = .ok (.aload_n 0, 1) := by decide +kernel
theorem d_MO_keepData_32 : decode prog_12_method_34_code 32 = .ok (.getfield 93, 3) := by decide +kernel
theorem d_MO_keepData_35 : decode prog_12_method_34_code 35 = .ok (.iload_n 3, 1) := by decide +kernel
theorem d_MO_keepData_36 : decode prog_12_method_34_code 36 = .ok (.aload_n 0, 1) := by decide +kernel
theorem d_MO_keepData_37 : decode prog_12_method_34_code 37 = .ok (.getfield 131, 3) := by decide +kernel
theorem d_MO_keepData_40 : decode prog_12_method_34_code 40 = .ok (.iload_n 2, 1) := by decide +kernel
theorem d_MO_keepData_41 : decode prog_12_method_34_code 41 = .ok (.isub, 1) := by decide +kernel
theorem d_MO_keepData_42 : decode prog_12_method_34_code 42 = .ok (.iastore, 1) := by decide +kernel
theorem d_MO_keepData_43 : decode prog_12_method_34_code 43 = .ok (.iload_n 2, 1) := by decide +kernel
theorem d_MO_keepData_44 : decode prog_12_method_34_code 44 = .ok (.istore 4, 2) := by decide +kernel
theorem d_MO_keepData_46 : decode prog_12_method_34_code 46 = .ok (.iload 4, 2) := by decide +kernel
theorem d_MO_keepData_48 : decode prog_12_method_34_code 48 = .ok (.aload_n 0, 1) := by decide +kernel
theorem d_MO_keepData_49 : decode prog_12_method_34_code 49 = .ok (.getfield 131, 3) := by decide +kernel
theorem d_MO_keepData_52 : decode prog_12_method_34_code 52 = .ok (.if_icmp .ge 31, 3) := by decide +kernel
theorem d_MO_keepData_55 : decode prog_12_method_34_code 55 = .ok (.aload_n 0, 1) := by decide +kernel
theorem d_MO_keepData_56 : decode prog_12_method_34_code 56 = .ok (.getfield 96, 3) := by decide +kernel
theorem d_MO_keepData_59 : decode prog_12_method_34_code 59 = .ok (.sipush 144, 3) := by decide +kernel
theorem d_MO_keepData_62 : decode prog_12_method_34_code 62 = .ok (.iload_n 3, 1) := by decide +kernel
theorem d_MO_keepData_63 : decode prog_12_method_34_code 63 = .ok (.imul, 1) := by decide +kernel
theorem d_MO_keepData_64 : decode prog_12_method_34_code 64 = .ok (.iload 4, 2) := by decide +kernel
theorem d_MO_keepData_66 : decode prog_12_method_34_code 66 = .ok (.iadd, 1) := by decide +kernel
theorem d_MO_keepData_67 : decode prog_12_method_34_code 67 = .ok (.iload_n 2, 1) := by decide +kernel
theorem d_MO_keepData_68 : decode prog_12_method_34_code 68 = .ok (.isub, 1) := by decide +kernel
theorem d_MO_keepData_69 : decode prog_12_method_34_code 69 = .ok (.aload_n 0, 1) := by decide +kernel
theorem d_MO_keepData_70 : decode prog_12_method_34_code 70 = .ok (.getfield 39, 3) := by decide +kernel
theorem d_MO_keepData_73 : decode prog_12_method_34_code 73 = .ok (.iload 4, 2) := by decide +kernel
theorem d_MO_keepData_75 : decode prog_12_method_34_code 75 = .ok (.iaload, 1) := by decide +kernel
theorem d_MO_keepData_76 : decode prog_12_method_34_code 76 = .ok (.iastore, 1) := by decide +kernel
theorem d_MO_keepData_77 : decode prog_12_method_34_code 77 = .ok (.iinc 4 1, 3) := by decide +kernel
theorem d_MO_keepData_80 : decode prog_12_method_34_code 80 = .ok (.goto (-34), 3) := by decide +kernel
theorem d_MO_keepData_83 : decode prog_12_method_34_code 83 = .ok (.return_, 1) := by decide +kernel
theorem d_MO_owner_0 : decode prog_12_method_35_code 0 = .ok (.iconst 0, 1) := by decide +kernel
theorem d_MO_owner_1 : decode prog_12_method_35_code 1 = .ok (.istore_n 3, 1) := by decide +kernel
theorem d_MO_owner_2 : decode prog_12_method_35_code 2 = .ok (.iload_n 3, 1) := by decide +kernel
theorem d_MO_owner_3 : decode prog_12_method_35_code 3 = .ok (.iconst 4, 1) := by decide +kernel
theorem d_MO_owner_4 : decode prog_12_method_35_code 4 = .ok (.if_icmp .ge 20, 3) := by decide +kernel
theorem d_MO_owner_7 : decode prog_12_method_35_code 7 = .ok (.aload_n 0, 1) := by decide +kernel
theorem d_MO_owner_8 : decode prog_12_method_35_code 8 = .ok (.getfield 16, 3) := by decide +kernel
theorem d_MO_owner_11 : decode prog_12_method_35_code 11 = .ok (.iload_n 3, 1) := by decide +kernel
theorem d_MO_owner_12 : decode prog_12_method_35_code 12 = .ok (.laload, 1) := by decide +kernel
theorem d_MO_owner_13 : decode prog_12_method_35_code 13 = .ok (.lload_n 1, 1) := by decide +kernel
theorem d_MO_owner_14 : decode prog_12_method_35_code 14 = .ok (.lcmp, 1) := by decide +kernel
theorem d_MO_owner_15 : decode prog_12_method_35_code 15 = .ok (.ifCond .eq 9, 3) := by decide +kernel
theorem d_MO_owner_18 : decode prog_12_method_35_code 18 = .ok (.iinc 3 1, 3) := by decide +kernel
theorem d_MO_owner_21 : decode prog_12_method_35_code 21 = .ok (.goto (-19), 3) := by decide +kernel
theorem d_MO_owner_24 : decode prog_12_method_35_code 24 = .ok (.iload_n 3, 1) := by decide +kernel
theorem d_MO_owner_25 : decode prog_12_method_35_code 25 = .ok (.ireturn, 1) := by decide +kernel
theorem d_MO_moment_0 : decode prog_12_method_36_code 0 = .ok (.aload_n 0, 1) := by decide +kernel
theorem d_MO_moment_1 : decode prog_12_method_36_code 1 = .ok (.getfield 78, 3) := by decide +kernel
theorem d_MO_moment_4 : decode prog_12_method_36_code 4 = .ok (.iload_n 1, 1) := by decide +kernel
theorem d_MO_moment_5 : decode prog_12_method_36_code 5 = .ok (.iaload, 1) := by decide +kernel
theorem d_MO_moment_6 : decode prog_12_method_36_code 6 = .ok (.aload_n 0, 1) := by decide +kernel
theorem d_MO_moment_7 : decode prog_12_method_36_code 7 = .ok (.getfield 75, 3) := by decide +kernel
theorem d_MO_moment_10 : decode prog_12_method_36_code 10 = .ok (.iload_n 1, 1) := by decide +kernel
theorem d_MO_moment_11 : decode prog_12_method_36_code 11 = .ok (.iaload, 1) := by decide +kernel
theorem d_MO_moment_12 : decode prog_12_method_36_code 12 = .ok (.if_icmp .ge 12, 3) := by decide +kernel
theorem d_MO_moment_15 : decode prog_12_method_36_code 15 = .ok (.aload_n 0, 1) := by decide +kernel
theorem d_MO_moment_16 : decode prog_12_method_36_code 16 = .ok (.getfield 78, 3) := by decide +kernel
theorem d_MO_moment_19 : decode prog_12_method_36_code 19 = .ok (.iload_n 1, 1) := by decide +kernel
theorem d_MO_moment_20 : decode prog_12_method_36_code 20 = .ok (.iaload, 1) := by decide +kernel
theorem d_MO_moment_21 : decode prog_12_method_36_code 21 = .ok (.goto 9, 3) := by decide +kernel
theorem d_MO_moment_24 : decode prog_12_method_36_code 24 = .ok (.aload_n 0, 1) := by decide +kernel
theorem d_MO_moment_25 : decode prog_12_method_36_code 25 = .ok (.getfield 75, 3) := by decide +kernel
theorem d_MO_moment_28 : decode prog_12_method_36_code 28 = .ok (.iload_n 1, 1) := by decide +kernel
theorem d_MO_moment_29 : decode prog_12_method_36_code 29 = .ok (.iaload, 1) := by decide +kernel
theorem d_MO_moment_30 : decode prog_12_method_36_code 30 = .ok (.ireturn, 1) := by decide +kernel
theorem d_MO_earliest_0 : decode prog_12_method_37_code 0 = .ok (.iconst (-1), 1) := by decide +kernel
theorem d_MO_earliest_1 : decode prog_12_method_37_code 1 = .ok (.istore_n 1, 1) := by decide +kernel
theorem d_MO_earliest_2 : decode prog_12_method_37_code 2 = .ok (.iconst 0, 1) := by decide +kernel
theorem d_MO_earliest_3 : decode prog_12_method_37_code 3 = .ok (.istore_n 2, 1) := by decide +kernel
theorem d_MO_earliest_4 : decode prog_12_method_37_code 4 = .ok (.iload_n 2, 1) := by decide +kernel
theorem d_MO_earliest_5 : decode prog_12_method_37_code 5 = .ok (.aload_n 0, 1) := by decide +kernel
theorem d_MO_earliest_6 : decode prog_12_method_37_code 6 = .ok (.getfield 214, 3) := by decide +kernel
theorem d_MO_earliest_9 : decode prog_12_method_37_code 9 = .ok (.if_icmp .ge 41, 3) := by decide +kernel
theorem d_MO_earliest_12 : decode prog_12_method_37_code 12 = .ok (.aload_n 0, 1) := by decide +kernel
theorem d_MO_earliest_13 : decode prog_12_method_37_code 13 = .ok (.getfield 84, 3) := by decide +kernel
theorem d_MO_earliest_16 : decode prog_12_method_37_code 16 = .ok (.iload_n 2, 1) := by decide +kernel
theorem d_MO_earliest_17 : decode prog_12_method_37_code 17 = .ok (.iaload, 1) := by decide +kernel
theorem d_MO_earliest_18 : decode prog_12_method_37_code 18 = .ok (.ifCond .ne 24, 3) := by decide +kernel
theorem d_MO_earliest_21 : decode prog_12_method_37_code 21 = .ok (.iload_n 1, 1) := by decide +kernel
theorem d_MO_earliest_22 : decode prog_12_method_37_code 22 = .ok (.ifCond .lt 16, 3) := by decide +kernel
theorem d_MO_earliest_25 : decode prog_12_method_37_code 25 = .ok (.aload_n 0, 1) := by decide +kernel
theorem d_MO_earliest_26 : decode prog_12_method_37_code 26 = .ok (.iload_n 2, 1) := by decide +kernel
theorem d_MO_earliest_27 : decode prog_12_method_37_code 27 = .ok (.invokevirtual 232, 3) := by decide +kernel
theorem d_MO_earliest_30 : decode prog_12_method_37_code 30 = .ok (.aload_n 0, 1) := by decide +kernel
theorem d_MO_earliest_31 : decode prog_12_method_37_code 31 = .ok (.iload_n 1, 1) := by decide +kernel
theorem d_MO_earliest_32 : decode prog_12_method_37_code 32 = .ok (.invokevirtual 232, 3) := by decide +kernel
theorem d_MO_earliest_35 : decode prog_12_method_37_code 35 = .ok (.if_icmp .ge 7, 3) := by decide +kernel
theorem d_MO_earliest_38 : decode prog_12_method_37_code 38 = .ok (.iload_n 2, 1) := by decide +kernel
theorem d_MO_earliest_39 : decode prog_12_method_37_code 39 = .ok (.goto 4, 3) := by decide +kernel
theorem d_MO_earliest_42 : decode prog_12_method_37_code 42 = .ok (.iload_n 1, 1) := by decide +kernel
theorem d_MO_earliest_43 : decode prog_12_method_37_code 43 = .ok (.istore_n 1, 1) := by decide +kernel
theorem d_MO_earliest_44 : decode prog_12_method_37_code 44 = .ok (.iinc 2 1, 3) := by decide +kernel
theorem d_MO_earliest_47 : decode prog_12_method_37_code 47 = .ok (.goto (-43), 3) := by decide +kernel
theorem d_MO_earliest_50 : decode prog_12_method_37_code 50 = .ok (.iload_n 1, 1) := by decide +kernel
theorem d_MO_earliest_51 : decode prog_12_method_37_code 51 = .ok (.ireturn, 1) := by decide +kernel
theorem d_MO_settle_0 : decode prog_12_method_38_code 0 = .ok (.aload_n 0, 1) := by decide +kernel
theorem d_MO_settle_1 : decode prog_12_method_38_code 1 = .ok (.getfield 84, 3) := by decide +kernel
theorem d_MO_settle_4 : decode prog_12_method_38_code 4 = .ok (.iload_n 1, 1) := by decide +kernel
theorem d_MO_settle_5 : decode prog_12_method_38_code 5 = .ok (.iload_n 2, 1) := by decide +kernel
theorem d_MO_settle_6 : decode prog_12_method_38_code 6 = .ok (.iastore, 1) := by decide +kernel
theorem d_MO_settle_7 : decode prog_12_method_38_code 7 = .ok (.aload_n 0, 1) := by decide +kernel
theorem d_MO_settle_8 : decode prog_12_method_38_code 8 = .ok (.dup, 1) := by decide +kernel
theorem d_MO_settle_9 : decode prog_12_method_38_code 9 = .ok (.getfield 211, 3) := by decide +kernel
theorem d_MO_settle_12 : decode prog_12_method_38_code 12 = .ok (.iconst 1, 1) := by decide +kernel
theorem d_MO_settle_13 : decode prog_12_method_38_code 13 = .ok (.isub, 1) := by decide +kernel
theorem d_MO_settle_14 : decode prog_12_method_38_code 14 = .ok (.putfield 211, 3) := by decide +kernel
theorem d_MO_settle_17 : decode prog_12_method_38_code 17 = .ok (.aload_n 0, 1) := by decide +kernel
theorem d_MO_settle_18 : decode prog_12_method_38_code 18 = .ok (.getfield 90, 3) := by decide +kernel
theorem d_MO_settle_21 : decode prog_12_method_38_code 21 = .ok (.aload_n 0, 1) := by decide +kernel
theorem d_MO_settle_22 : decode prog_12_method_38_code 22 = .ok (.getfield 87, 3) := by decide +kernel
theorem d_MO_settle_25 : decode prog_12_method_38_code 25 = .ok (.iload_n 1, 1) := by decide +kernel
theorem d_MO_settle_26 : decode prog_12_method_38_code 26 = .ok (.iaload, 1) := by decide +kernel
theorem d_MO_settle_27 : decode prog_12_method_38_code 27 = .ok (.iconst 0, 1) := by decide +kernel
theorem d_MO_settle_28 : decode prog_12_method_38_code 28 = .ok (.bastore, 1) := by decide +kernel
theorem d_MO_settle_29 : decode prog_12_method_38_code 29 = .ok (.iconst 5, 1) := by decide +kernel
theorem d_MO_settle_30 : decode prog_12_method_38_code 30 = .ok (.aload_n 0, 1) := by decide +kernel
theorem d_MO_settle_31 : decode prog_12_method_38_code 31 = .ok (.getfield 54, 3) := by decide +kernel
theorem d_MO_settle_34 : decode prog_12_method_38_code 34 = .ok (.iload_n 1, 1) := by decide +kernel
theorem d_MO_settle_35 : decode prog_12_method_38_code 35 = .ok (.iaload, 1) := by decide +kernel
theorem d_MO_settle_36 : decode prog_12_method_38_code 36 = .ok (.iadd, 1) := by decide +kernel
theorem d_MO_settle_37 : decode prog_12_method_38_code 37 = .ok (.istore 4, 2) := by decide +kernel
theorem d_MO_settle_39 : decode prog_12_method_38_code 39 = .ok (.aload_n 0, 1) := by decide +kernel
theorem d_MO_settle_40 : decode prog_12_method_38_code 40 = .ok (.getfield 66, 3) := by decide +kernel
theorem d_MO_settle_43 : decode prog_12_method_38_code 43 = .ok (.iload_n 1, 1) := by decide +kernel
theorem d_MO_settle_44 : decode prog_12_method_38_code 44 = .ok (.baload, 1) := by decide +kernel
theorem d_MO_settle_45 : decode prog_12_method_38_code 45 = .ok (.ifCond .eq 15, 3) := by decide +kernel
theorem d_MO_settle_48 : decode prog_12_method_38_code 48 = .ok (.aload_n 0, 1) := by decide +kernel
theorem d_MO_settle_49 : decode prog_12_method_38_code 49 = .ok (.getfield 51, 3) := by decide +kernel
theorem d_MO_settle_52 : decode prog_12_method_38_code 52 = .ok (.iload 4, 2) := by decide +kernel
theorem d_MO_settle_54 : decode prog_12_method_38_code 54 = .ok (.iaload, 1) := by decide +kernel
theorem d_MO_settle_55 : decode prog_12_method_38_code 55 = .ok (.bipush 6, 2) := by decide +kernel
theorem d_MO_settle_57 : decode prog_12_method_38_code 57 = .ok (.if_icmp .ne 4, 3) := by decide +kernel
theorem d_MO_settle_60 : decode prog_12_method_38_code 60 = .ok (.return_, 1) := by decide +kernel
theorem d_MO_settle_61 : decode prog_12_method_38_code 61 = .ok (.aload_n 0, 1) := by decide +kernel
theorem d_MO_settle_62 : decode prog_12_method_38_code 62 = .ok (.iconst 0, 1) := by decide +kernel
theorem d_MO_settle_63 : decode prog_12_method_38_code 63 = .ok (.putfield 131, 3) := by decide +kernel
theorem d_MO_settle_66 : decode prog_12_method_38_code 66 = .ok (.aload_n 0, 1) := by decide +kernel
theorem d_MO_settle_67 : decode prog_12_method_38_code 67 = .ok (.iconst 2, 1) := by decide +kernel
theorem d_MO_settle_68 : decode prog_12_method_38_code 68 = .ok (.invokevirtual 140, 3) := by decide +kernel
theorem d_MO_settle_71 : decode prog_12_method_38_code 71 = .ok (.aload_n 0, 1) := by decide +kernel
theorem d_MO_settle_72 : decode prog_12_method_38_code 72 = .ok (.aload_n 0, 1) := by decide +kernel
theorem d_MO_settle_73 : decode prog_12_method_38_code 73 = .ok (.getfield 57, 3) := by decide +kernel
theorem d_MO_settle_76 : decode prog_12_method_38_code 76 = .ok (.iload_n 1, 1) := by decide +kernel
theorem d_MO_settle_77 : decode prog_12_method_38_code 77 = .ok (.iaload, 1) := by decide +kernel
theorem d_MO_settle_78 : decode prog_12_method_38_code 78 = .ok (.invokevirtual 140, 3) := by decide +kernel
theorem d_MO_settle_81 : decode prog_12_method_38_code 81 = .ok (.aload_n 0, 1) := by decide +kernel
theorem d_MO_settle_82 : decode prog_12_method_38_code 82 = .ok (.aload_n 0, 1) := by decide +kernel
theorem d_MO_settle_83 : decode prog_12_method_38_code 83 = .ok (.getfield 63, 3) := by decide +kernel
theorem d_MO_settle_86 : decode prog_12_method_38_code 86 = .ok (.iload_n 1, 1) := by decide +kernel
theorem d_MO_settle_87 : decode prog_12_method_38_code 87 = .ok (.laload, 1) := by decide +kernel
theorem d_MO_settle_88 : decode prog_12_method_38_code 88 = .ok (.invokevirtual 151, 3) := by decide +kernel
theorem d_MO_settle_91 : decode prog_12_method_38_code 91 = .ok (.aload_n 0, 1) := by decide +kernel
theorem d_MO_settle_92 : decode prog_12_method_38_code 92 = .ok (.aload_n 0, 1) := by decide +kernel
theorem d_MO_settle_93 : decode prog_12_method_38_code 93 = .ok (.getfield 72, 3) := by decide +kernel
theorem d_MO_settle_96 : decode prog_12_method_38_code 96 = .ok (.iload_n 1, 1) := by decide +kernel
theorem d_MO_settle_97 : decode prog_12_method_38_code 97 = .ok (.iaload, 1) := by decide +kernel
theorem d_MO_settle_98 : decode prog_12_method_38_code 98 = .ok (.i2l, 1) := by decide +kernel
theorem d_MO_settle_99 : decode prog_12_method_38_code 99 = .ok (.bipush 14, 2) := by decide +kernel
theorem d_MO_settle_101 : decode prog_12_method_38_code 101 = .ok (.invokevirtual 144, 3) := by decide +kernel
theorem d_MO_settle_104 : decode prog_12_method_38_code 104 = .ok (.aload_n 0, 1) := by decide +kernel
theorem d_MO_settle_105 : decode prog_12_method_38_code 105 = .ok (.iload_n 3, 1) := by decide +kernel
theorem d_MO_settle_106 : decode prog_12_method_38_code 106 = .ok (.i2l, 1) := by decide +kernel
theorem d_MO_settle_107 : decode prog_12_method_38_code 107 = .ok (.bipush 14, 2) := by decide +kernel
theorem d_MO_settle_109 : decode prog_12_method_38_code 109 = .ok (.invokevirtual 144, 3) := by decide +kernel
theorem d_MO_settle_112 : decode prog_12_method_38_code 112 = .ok (.aload_n 0, 1) := by decide +kernel
theorem d_MO_settle_113 : decode prog_12_method_38_code 113 = .ok (.iload_n 2, 1) := by decide +kernel
theorem d_MO_settle_114 : decode prog_12_method_38_code 114 = .ok (.iconst 1, 1) := by decide +kernel
theorem d_MO_settle_115 : decode prog_12_method_38_code 115 = .ok (.if_icmp .ne 7, 3) := by decide +kernel
theorem d_MO_settle_118 : decode prog_12_method_38_code 118 = .ok (.iconst 0, 1) := by decide +kernel
theorem d_MO_settle_119 : decode prog_12_method_38_code 119 = .ok (.goto 15, 3) := by decide +kernel
theorem d_MO_settle_122 : decode prog_12_method_38_code 122 = .ok (.iload_n 2, 1) := by decide +kernel
theorem d_MO_settle_123 : decode prog_12_method_38_code 123 = .ok (.iconst 2, 1) := by decide +kernel
theorem d_MO_settle_124 : decode prog_12_method_38_code 124 = .ok (.if_icmp .ne 8, 3) := by decide +kernel
theorem d_MO_settle_127 : decode prog_12_method_38_code 127 = .ok (.bipush 70, 2) := by decide +kernel
theorem d_MO_settle_129 : decode prog_12_method_38_code 129 = .ok (.goto 5, 3) := by decide +kernel
theorem d_MO_settle_132 : decode prog_12_method_38_code 132 = .ok (.bipush 73, 2) := by decide +kernel
theorem d_MO_settle_134 : decode prog_12_method_38_code 134 = .ok (.invokevirtual 140, 3) := by decide +kernel
theorem d_MO_settle_137 : decode prog_12_method_38_code 137 = .ok (.aload_n 0, 1) := by decide +kernel
theorem d_MO_settle_138 : decode prog_12_method_38_code 138 = .ok (.iload 4, 2) := by decide +kernel
theorem d_MO_settle_140 : decode prog_12_method_38_code 140 = .ok (.iconst 0, 1) := by decide +kernel
theorem d_MO_settle_141 : decode prog_12_method_38_code 141 = .ok (.invokevirtual 208, 3) := by decide +kernel
theorem d_MO_settle_144 : decode prog_12_method_38_code 144 = .ok (.return_, 1) := by decide +kernel
theorem d_MO_deliver_0 : decode prog_12_method_39_code 0 = .ok (.aload_n 0, 1) := by decide +kernel
theorem d_MO_deliver_1 : decode prog_12_method_39_code 1 = .ok (.iconst 0, 1) := by decide +kernel
theorem d_MO_deliver_2 : decode prog_12_method_39_code 2 = .ok (.putfield 131, 3) := by decide +kernel
theorem d_MO_deliver_5 : decode prog_12_method_39_code 5 = .ok (.aload_n 0, 1) := by decide +kernel
theorem d_MO_deliver_6 : decode prog_12_method_39_code 6 = .ok (.aload_n 0, 1) := by decide +kernel
theorem d_MO_deliver_7 : decode prog_12_method_39_code 7 = .ok (.getfield 69, 3) := by decide +kernel
theorem d_MO_deliver_10 : decode prog_12_method_39_code 10 = .ok (.iload_n 1, 1) := by decide +kernel
theorem d_MO_deliver_11 : decode prog_12_method_39_code 11 = .ok (.baload, 1) := by decide +kernel
theorem d_MO_deliver_12 : decode prog_12_method_39_code 12 = .ok (.ifCond .eq 8, 3) := by decide +kernel
theorem d_MO_deliver_15 : decode prog_12_method_39_code 15 = .ok (.bipush 68, 2) := by decide +kernel
theorem d_MO_deliver_17 : decode prog_12_method_39_code 17 = .ok (.goto 4, 3) := by decide +kernel
theorem d_MO_deliver_20 : decode prog_12_method_39_code 20 = .ok (.iconst 4, 1) := by decide +kernel
theorem d_MO_deliver_21 : decode prog_12_method_39_code 21 = .ok (.invokevirtual 140, 3) := by decide +kernel
theorem d_MO_deliver_24 : decode prog_12_method_39_code 24 = .ok (.aload_n 0, 1) := by decide +kernel
theorem d_MO_deliver_25 : decode prog_12_method_39_code 25 = .ok (.aload_n 0, 1) := by decide +kernel
theorem d_MO_deliver_26 : decode prog_12_method_39_code 26 = .ok (.getfield 60, 3) := by decide +kernel
theorem d_MO_deliver_29 : decode prog_12_method_39_code 29 = .ok (.iload_n 1, 1) := by decide +kernel
theorem d_MO_deliver_30 : decode prog_12_method_39_code 30 = .ok (.laload, 1) := by decide +kernel
theorem d_MO_deliver_31 : decode prog_12_method_39_code 31 = .ok (.invokevirtual 151, 3) := by decide +kernel
theorem d_MO_deliver_34 : decode prog_12_method_39_code 34 = .ok (.aload_n 0, 1) := by decide +kernel
theorem d_MO_deliver_35 : decode prog_12_method_39_code 35 = .ok (.iconst 0, 1) := by decide +kernel
theorem d_MO_deliver_36 : decode prog_12_method_39_code 36 = .ok (.invokevirtual 140, 3) := by decide +kernel
theorem d_MO_deliver_39 : decode prog_12_method_39_code 39 = .ok (.aload_n 0, 1) := by decide +kernel
theorem d_MO_deliver_40 : decode prog_12_method_39_code 40 = .ok (.iconst 0, 1) := by decide +kernel
theorem d_MO_deliver_41 : decode prog_12_method_39_code 41 = .ok (.invokevirtual 140, 3) := by decide +kernel
theorem d_MO_deliver_44 : decode prog_12_method_39_code 44 = .ok (.aload_n 0, 1) := by decide +kernel
theorem d_MO_deliver_45 : decode prog_12_method_39_code 45 = .ok (.aload_n 0, 1) := by decide +kernel
theorem d_MO_deliver_46 : decode prog_12_method_39_code 46 = .ok (.getfield 72, 3) := by decide +kernel
theorem d_MO_deliver_49 : decode prog_12_method_39_code 49 = .ok (.iload_n 1, 1) := by decide +kernel
theorem d_MO_deliver_50 : decode prog_12_method_39_code 50 = .ok (.iaload, 1) := by decide +kernel
theorem d_MO_deliver_51 : decode prog_12_method_39_code 51 = .ok (.i2l, 1) := by decide +kernel
theorem d_MO_deliver_52 : decode prog_12_method_39_code 52 = .ok (.bipush 14, 2) := by decide +kernel
theorem d_MO_deliver_54 : decode prog_12_method_39_code 54 = .ok (.invokevirtual 144, 3) := by decide +kernel
theorem d_MO_deliver_57 : decode prog_12_method_39_code 57 = .ok (.iconst 0, 1) := by decide +kernel
theorem d_MO_deliver_58 : decode prog_12_method_39_code 58 = .ok (.istore_n 3, 1) := by decide +kernel
theorem d_MO_deliver_59 : decode prog_12_method_39_code 59 = .ok (.iload_n 3, 1) := by decide +kernel
theorem d_MO_deliver_60 : decode prog_12_method_39_code 60 = .ok (.aload_n 0, 1) := by decide +kernel
theorem d_MO_deliver_61 : decode prog_12_method_39_code 61 = .ok (.getfield 93, 3) := by decide +kernel
theorem d_MO_deliver_64 : decode prog_12_method_39_code 64 = .ok (.aload_n 0, 1) := by decide +kernel
theorem d_MO_deliver_65 : decode prog_12_method_39_code 65 = .ok (.getfield 87, 3) := by decide +kernel
theorem d_MO_deliver_68 : decode prog_12_method_39_code 68 = .ok (.iload_n 1, 1) := by decide +kernel
theorem d_MO_deliver_69 : decode prog_12_method_39_code 69 = .ok (.iaload, 1) := by decide +kernel
theorem d_MO_deliver_70 : decode prog_12_method_39_code 70 = .ok (.iaload, 1) := by decide +kernel
theorem d_MO_deliver_71 : decode prog_12_method_39_code 71 = .ok (.if_icmp .ge 30, 3) := by decide +kernel
theorem d_MO_deliver_74 : decode prog_12_method_39_code 74 = .ok (.aload_n 0, 1) := by decide +kernel
theorem d_MO_deliver_75 : decode prog_12_method_39_code 75 = .ok (.aload_n 0, 1) := by decide +kernel
theorem d_MO_deliver_76 : decode prog_12_method_39_code 76 = .ok (.getfield 96, 3) := by decide +kernel
theorem d_MO_deliver_79 : decode prog_12_method_39_code 79 = .ok (.sipush 144, 3) := by decide +kernel
theorem d_MO_deliver_82 : decode prog_12_method_39_code 82 = .ok (.aload_n 0, 1) := by decide +kernel
theorem d_MO_deliver_83 : decode prog_12_method_39_code 83 = .ok (.getfield 87, 3) := by decide +kernel
theorem d_MO_deliver_86 : decode prog_12_method_39_code 86 = .ok (.iload_n 1, 1) := by decide +kernel
theorem d_MO_deliver_87 : decode prog_12_method_39_code 87 = .ok (.iaload, 1) := by decide +kernel
theorem d_MO_deliver_88 : decode prog_12_method_39_code 88 = .ok (.imul, 1) := by decide +kernel
theorem d_MO_deliver_89 : decode prog_12_method_39_code 89 = .ok (.iload_n 3, 1) := by decide +kernel
theorem d_MO_deliver_90 : decode prog_12_method_39_code 90 = .ok (.iadd, 1) := by decide +kernel
theorem d_MO_deliver_91 : decode prog_12_method_39_code 91 = .ok (.iaload, 1) := by decide +kernel
theorem d_MO_deliver_92 : decode prog_12_method_39_code 92 = .ok (.invokevirtual 140, 3) := by decide +kernel
theorem d_MO_deliver_95 : decode prog_12_method_39_code 95 = .ok (.iinc 3 1, 3) := by decide +kernel
theorem d_MO_deliver_98 : decode prog_12_method_39_code 98 = .ok (.goto (-39), 3) := by decide +kernel
theorem d_MO_deliver_101 : decode prog_12_method_39_code 101 = .ok (.aload_n 0, 1) := by decide +kernel
theorem d_MO_deliver_102 : decode prog_12_method_39_code 102 = .ok (.iconst 1, 1) := by decide +kernel
theorem d_MO_deliver_103 : decode prog_12_method_39_code 103 = .ok (.iload_n 2, 1) := by decide +kernel
theorem d_MO_deliver_104 : decode prog_12_method_39_code 104 = .ok (.iadd, 1) := by decide +kernel
theorem d_MO_deliver_105 : decode prog_12_method_39_code 105 = .ok (.iconst 0, 1) := by decide +kernel
theorem d_MO_deliver_106 : decode prog_12_method_39_code 106 = .ok (.invokevirtual 208, 3) := by decide +kernel
theorem d_MO_deliver_109 : decode prog_12_method_39_code 109 = .ok (.return_, 1) := by decide +kernel
end
section
theorem d_MO_deal_0 : decode prog_12_method_40_code 0 = .ok (.aload_n 0, 1) := by decide +kernel
theorem d_MO_deal_1 : decode prog_12_method_40_code 1 = .ok (.iload_n 1, 1) := by decide +kernel
theorem d_MO_deal_2 : decode prog_12_method_40_code 2 = .ok (.invokevirtual 232, 3) := by decide +kernel
theorem d_MO_deal_5 : decode prog_12_method_40_code 5 = .ok (.istore_n 2, 1) := by decide +kernel
theorem d_MO_deal_6 : decode prog_12_method_40_code 6 = .ok (.iload_n 2, 1) := by decide +kernel
theorem d_MO_deal_7 : decode prog_12_method_40_code 7 = .ok (.aload_n 0, 1) := by decide +kernel
theorem d_MO_deal_8 : decode prog_12_method_40_code 8 = .ok (.getfield 75, 3) := by decide +kernel
theorem d_MO_deal_11 : decode prog_12_method_40_code 11 = .ok (.iload_n 1, 1) := by decide +kernel
theorem d_MO_deal_12 : decode prog_12_method_40_code 12 = .ok (.iaload, 1) := by decide +kernel
theorem d_MO_deal_13 : decode prog_12_method_40_code 13 = .ok (.if_icmp .ne 12, 3) := by decide +kernel
theorem d_MO_deal_16 : decode prog_12_method_40_code 16 = .ok (.aload_n 0, 1) := by decide +kernel
theorem d_MO_deal_17 : decode prog_12_method_40_code 17 = .ok (.iload_n 1, 1) := by decide +kernel
theorem d_MO_deal_18 : decode prog_12_method_40_code 18 = .ok (.iconst 2, 1) := by decide +kernel
theorem d_MO_deal_19 : decode prog_12_method_40_code 19 = .ok (.iload_n 2, 1) := by decide +kernel
theorem d_MO_deal_20 : decode prog_12_method_40_code 20 = .ok (.invokevirtual 235, 3) := by decide +kernel
theorem d_MO_deal_23 : decode prog_12_method_40_code 23 = .ok (.iconst 1, 1) := by decide +kernel
theorem d_MO_deal_24 : decode prog_12_method_40_code 24 = .ok (.ireturn, 1) := by decide +kernel
theorem d_MO_deal_25 : decode prog_12_method_40_code 25 = .ok (.aload_n 0, 1) := by decide +kernel
theorem d_MO_deal_26 : decode prog_12_method_40_code 26 = .ok (.getfield 81, 3) := by decide +kernel
theorem d_MO_deal_29 : decode prog_12_method_40_code 29 = .ok (.iload_n 1, 1) := by decide +kernel
theorem d_MO_deal_30 : decode prog_12_method_40_code 30 = .ok (.dup2, 1) := by decide +kernel
theorem d_MO_deal_31 : decode prog_12_method_40_code 31 = .ok (.iaload, 1) := by decide +kernel
theorem d_MO_deal_32 : decode prog_12_method_40_code 32 = .ok (.iconst 1, 1) := by decide +kernel
theorem d_MO_deal_33 : decode prog_12_method_40_code 33 = .ok (.iadd, 1) := by decide +kernel
theorem d_MO_deal_34 : decode prog_12_method_40_code 34 = .ok (.iastore, 1) := by decide +kernel
theorem d_MO_deal_35 : decode prog_12_method_40_code 35 = .ok (.aload_n 0, 1) := by decide +kernel
theorem d_MO_deal_36 : decode prog_12_method_40_code 36 = .ok (.aload_n 0, 1) := by decide +kernel
theorem d_MO_deal_37 : decode prog_12_method_40_code 37 = .ok (.getfield 63, 3) := by decide +kernel
theorem d_MO_deal_40 : decode prog_12_method_40_code 40 = .ok (.iload_n 1, 1) := by decide +kernel
theorem d_MO_deal_41 : decode prog_12_method_40_code 41 = .ok (.laload, 1) := by decide +kernel
theorem d_MO_deal_42 : decode prog_12_method_40_code 42 = .ok (.invokevirtual 239, 3) := by decide +kernel
theorem d_MO_deal_45 : decode prog_12_method_40_code 45 = .ok (.istore_n 3, 1) := by decide +kernel
theorem d_MO_deal_46 : decode prog_12_method_40_code 46 = .ok (.iload_n 3, 1) := by decide +kernel
theorem d_MO_deal_47 : decode prog_12_method_40_code 47 = .ok (.iconst 4, 1) := by decide +kernel
theorem d_MO_deal_48 : decode prog_12_method_40_code 48 = .ok (.if_icmp .ne 12, 3) := by decide +kernel
theorem d_MO_deal_51 : decode prog_12_method_40_code 51 = .ok (.aload_n 0, 1) := by decide +kernel
theorem d_MO_deal_52 : decode prog_12_method_40_code 52 = .ok (.iload_n 1, 1) := by decide +kernel
theorem d_MO_deal_53 : decode prog_12_method_40_code 53 = .ok (.iconst 3, 1) := by decide +kernel
theorem d_MO_deal_54 : decode prog_12_method_40_code 54 = .ok (.iload_n 2, 1) := by decide +kernel
theorem d_MO_deal_55 : decode prog_12_method_40_code 55 = .ok (.invokevirtual 235, 3) := by decide +kernel
theorem d_MO_deal_58 : decode prog_12_method_40_code 58 = .ok (.iconst 1, 1) := by decide +kernel
theorem d_MO_deal_59 : decode prog_12_method_40_code 59 = .ok (.ireturn, 1) := by decide +kernel
theorem d_MO_deal_60 : decode prog_12_method_40_code 60 = .ok (.aload_n 0, 1) := by decide +kernel
theorem d_MO_deal_61 : decode prog_12_method_40_code 61 = .ok (.getfield 20, 3) := by decide +kernel
theorem d_MO_deal_64 : decode prog_12_method_40_code 64 = .ok (.iload_n 3, 1) := by decide +kernel
theorem d_MO_deal_65 : decode prog_12_method_40_code 65 = .ok (.baload, 1) := by decide +kernel
theorem d_MO_deal_66 : decode prog_12_method_40_code 66 = .ok (.ifCond .eq 31, 3) := by decide +kernel
theorem d_MO_deal_69 : decode prog_12_method_40_code 69 = .ok (.aload_n 0, 1) := by decide +kernel
theorem d_MO_deal_70 : decode prog_12_method_40_code 70 = .ok (.getfield 51, 3) := by decide +kernel
theorem d_MO_deal_73 : decode prog_12_method_40_code 73 = .ok (.iconst 1, 1) := by decide +kernel
theorem d_MO_deal_74 : decode prog_12_method_40_code 74 = .ok (.iload_n 3, 1) := by decide +kernel
theorem d_MO_deal_75 : decode prog_12_method_40_code 75 = .ok (.iadd, 1) := by decide +kernel
theorem d_MO_deal_76 : decode prog_12_method_40_code 76 = .ok (.iaload, 1) := by decide +kernel
theorem d_MO_deal_77 : decode prog_12_method_40_code 77 = .ok (.bipush 6, 2) := by decide +kernel
theorem d_MO_deal_79 : decode prog_12_method_40_code 79 = .ok (.if_icmp .ge 18, 3) := by decide +kernel
theorem d_MO_deal_82 : decode prog_12_method_40_code 82 = .ok (.aload_n 0, 1) := by decide +kernel
theorem d_MO_deal_83 : decode prog_12_method_40_code 83 = .ok (.iload_n 1, 1) := by decide +kernel
theorem d_MO_deal_84 : decode prog_12_method_40_code 84 = .ok (.iload_n 3, 1) := by decide +kernel
theorem d_MO_deal_85 : decode prog_12_method_40_code 85 = .ok (.invokevirtual 243, 3) := by decide +kernel
theorem d_MO_deal_88 : decode prog_12_method_40_code 88 = .ok (.aload_n 0, 1) := by decide +kernel
theorem d_MO_deal_89 : decode prog_12_method_40_code 89 = .ok (.iload_n 1, 1) := by decide +kernel
theorem d_MO_deal_90 : decode prog_12_method_40_code 90 = .ok (.iconst 1, 1) := by decide +kernel
theorem d_MO_deal_91 : decode prog_12_method_40_code 91 = .ok (.iload_n 2, 1) := by decide +kernel
theorem d_MO_deal_92 : decode prog_12_method_40_code 92 = .ok (.invokevirtual 235, 3) := by decide +kernel
theorem d_MO_deal_95 : decode prog_12_method_40_code 95 = .ok (.iconst 1, 1) := by decide +kernel
theorem d_MO_deal_96 : decode prog_12_method_40_code 96 = .ok (.ireturn, 1) := by decide +kernel
theorem d_MO_deal_97 : decode prog_12_method_40_code 97 = .ok (.aload_n 0, 1) := by decide +kernel
theorem d_MO_deal_98 : decode prog_12_method_40_code 98 = .ok (.getfield 78, 3) := by decide +kernel
theorem d_MO_deal_101 : decode prog_12_method_40_code 101 = .ok (.iload_n 1, 1) := by decide +kernel
theorem d_MO_deal_102 : decode prog_12_method_40_code 102 = .ok (.iload_n 2, 1) := by decide +kernel
theorem d_MO_deal_103 : decode prog_12_method_40_code 103 = .ok (.aload_n 0, 1) := by decide +kernel
theorem d_MO_deal_104 : decode prog_12_method_40_code 104 = .ok (.getfield 81, 3) := by decide +kernel
theorem d_MO_deal_107 : decode prog_12_method_40_code 107 = .ok (.iload_n 1, 1) := by decide +kernel
theorem d_MO_deal_108 : decode prog_12_method_40_code 108 = .ok (.iaload, 1) := by decide +kernel
theorem d_MO_deal_109 : decode prog_12_method_40_code 109 = .ok (.iconst 1, 1) := by decide +kernel
theorem d_MO_deal_110 : decode prog_12_method_40_code 110 = .ok (.if_icmp .ne 7, 3) := by decide +kernel
theorem d_MO_deal_113 : decode prog_12_method_40_code 113 = .ok (.iconst 1, 1) := by decide +kernel
theorem d_MO_deal_114 : decode prog_12_method_40_code 114 = .ok (.goto 19, 3) := by decide +kernel
theorem d_MO_deal_117 : decode prog_12_method_40_code 117 = .ok (.aload_n 0, 1) := by decide +kernel
theorem d_MO_deal_118 : decode prog_12_method_40_code 118 = .ok (.getfield 81, 3) := by decide +kernel
theorem d_MO_deal_121 : decode prog_12_method_40_code 121 = .ok (.iload_n 1, 1) := by decide +kernel
theorem d_MO_deal_122 : decode prog_12_method_40_code 122 = .ok (.iaload, 1) := by decide +kernel
theorem d_MO_deal_123 : decode prog_12_method_40_code 123 = .ok (.iconst 2, 1) := by decide +kernel
theorem d_MO_deal_124 : decode prog_12_method_40_code 124 = .ok (.if_icmp .ne 7, 3) := by decide +kernel
theorem d_MO_deal_127 : decode prog_12_method_40_code 127 = .ok (.iconst 4, 1) := by decide +kernel
theorem d_MO_deal_128 : decode prog_12_method_40_code 128 = .ok (.goto 5, 3) := by decide +kernel
theorem d_MO_deal_131 : decode prog_12_method_40_code 131 = .ok (.bipush 16, 2) := by decide +kernel
theorem d_MO_deal_133 : decode prog_12_method_40_code 133 = .ok (.iadd, 1) := by decide +kernel
theorem d_MO_deal_134 : decode prog_12_method_40_code 134 = .ok (.iastore, 1) := by decide +kernel
theorem d_MO_deal_135 : decode prog_12_method_40_code 135 = .ok (.iconst 0, 1) := by decide +kernel
theorem d_MO_deal_136 : decode prog_12_method_40_code 136 = .ok (.ireturn, 1) := by decide +kernel
theorem d_MO_advance_0 : decode prog_12_method_41_code 0 = .ok (.iload_n 1, 1) := by decide +kernel
theorem d_MO_advance_1 : decode prog_12_method_41_code 1 = .ok (.ifCond .lt 9, 3) := by decide +kernel
theorem d_MO_advance_4 : decode prog_12_method_41_code 4 = .ok (.iload_n 1, 1) := by decide +kernel
theorem d_MO_advance_5 : decode prog_12_method_41_code 5 = .ok (.ldc 246, 2) := by decide +kernel
theorem d_MO_advance_7 : decode prog_12_method_41_code 7 = .ok (.if_icmp .le 5, 3) := by decide +kernel
theorem d_MO_advance_10 : decode prog_12_method_41_code 10 = .ok (.iconst (-1), 1) := by decide +kernel
theorem d_MO_advance_11 : decode prog_12_method_41_code 11 = .ok (.ireturn, 1) := by decide +kernel
theorem d_MO_advance_12 : decode prog_12_method_41_code 12 = .ok (.aload_n 0, 1) := by decide +kernel
theorem d_MO_advance_13 : decode prog_12_method_41_code 13 = .ok (.aload_n 0, 1) := by decide +kernel
theorem d_MO_advance_14 : decode prog_12_method_41_code 14 = .ok (.getfield 226, 3) := by decide +kernel
theorem d_MO_advance_17 : decode prog_12_method_41_code 17 = .ok (.iload_n 1, 1) := by decide +kernel
theorem d_MO_advance_18 : decode prog_12_method_41_code 18 = .ok (.iadd, 1) := by decide +kernel
theorem d_MO_advance_19 : decode prog_12_method_41_code 19 = .ok (.putfield 226, 3) := by decide +kernel
theorem d_MO_advance_22 : decode prog_12_method_41_code 22 = .ok (.iconst 0, 1) := by decide +kernel
theorem d_MO_advance_23 : decode prog_12_method_41_code 23 = .ok (.istore_n 2, 1) := by decide +kernel
theorem d_MO_advance_24 : decode prog_12_method_41_code 24 = .ok (.aload_n 0, 1) := by decide +kernel
theorem d_MO_advance_25 : decode prog_12_method_41_code 25 = .ok (.invokevirtual 247, 3) := by decide +kernel
theorem d_MO_advance_28 : decode prog_12_method_41_code 28 = .ok (.istore_n 3, 1) := by decide +kernel
theorem d_MO_advance_29 : decode prog_12_method_41_code 29 = .ok (.iload_n 3, 1) := by decide +kernel
theorem d_MO_advance_30 : decode prog_12_method_41_code 30 = .ok (.ifCond .lt 39, 3) := by decide +kernel
theorem d_MO_advance_33 : decode prog_12_method_41_code 33 = .ok (.aload_n 0, 1) := by decide +kernel
theorem d_MO_advance_34 : decode prog_12_method_41_code 34 = .ok (.iload_n 3, 1) := by decide +kernel
theorem d_MO_advance_35 : decode prog_12_method_41_code 35 = .ok (.invokevirtual 232, 3) := by decide +kernel
theorem d_MO_advance_38 : decode prog_12_method_41_code 38 = .ok (.aload_n 0, 1) := by decide +kernel
theorem d_MO_advance_39 : decode prog_12_method_41_code 39 = .ok (.getfield 226, 3) := by decide +kernel
theorem d_MO_advance_42 : decode prog_12_method_41_code 42 = .ok (.if_icmp .gt 27, 3) := by decide +kernel
theorem d_MO_advance_45 : decode prog_12_method_41_code 45 = .ok (.aload_n 0, 1) := by decide +kernel
theorem d_MO_advance_46 : decode prog_12_method_41_code 46 = .ok (.iload_n 3, 1) := by decide +kernel
theorem d_MO_advance_47 : decode prog_12_method_41_code 47 = .ok (.invokevirtual 250, 3) := by decide +kernel
theorem d_MO_advance_50 : decode prog_12_method_41_code 50 = .ok (.ifCond .eq 9, 3) := by decide +kernel
theorem d_MO_advance_53 : decode prog_12_method_41_code 53 = .ok (.iload_n 2, 1) := by decide +kernel
theorem d_MO_advance_54 : decode prog_12_method_41_code 54 = .ok (.iconst 1, 1) := by decide +kernel
theorem d_MO_advance_55 : decode prog_12_method_41_code 55 = .ok (.iadd, 1) := by decide +kernel
theorem d_MO_advance_56 : decode prog_12_method_41_code 56 = .ok (.goto 4, 3) := by decide +kernel
theorem d_MO_advance_59 : decode prog_12_method_41_code 59 = .ok (.iload_n 2, 1) := by decide +kernel
theorem d_MO_advance_60 : decode prog_12_method_41_code 60 = .ok (.istore_n 2, 1) := by decide +kernel
theorem d_MO_advance_61 : decode prog_12_method_41_code 61 = .ok (.aload_n 0, 1) := by decide +kernel
theorem d_MO_advance_62 : decode prog_12_method_41_code 62 = .ok (.invokevirtual 247, 3) := by decide +kernel
theorem d_MO_advance_65 : decode prog_12_method_41_code 65 = .ok (.istore_n 3, 1) := by decide +kernel
theorem d_MO_advance_66 : decode prog_12_method_41_code 66 = .ok (.goto (-37), 3) := by decide +kernel
theorem d_MO_advance_69 : decode prog_12_method_41_code 69 = .ok (.iload_n 2, 1) := by decide +kernel
theorem d_MO_advance_70 : decode prog_12_method_41_code 70 = .ok (.ireturn, 1) := by decide +kernel
theorem d_MO_decode_0 : decode prog_12_method_42_code 0 = .ok (.iconst 0, 1) := by decide +kernel
theorem d_MO_decode_1 : decode prog_12_method_42_code 1 = .ok (.istore_n 3, 1) := by decide +kernel
theorem d_MO_decode_2 : decode prog_12_method_42_code 2 = .ok (.iconst 0, 1) := by decide +kernel
theorem d_MO_decode_3 : decode prog_12_method_42_code 3 = .ok (.istore 4, 2) := by decide +kernel
theorem d_MO_decode_5 : decode prog_12_method_42_code 5 = .ok (.iload 4, 2) := by decide +kernel
theorem d_MO_decode_7 : decode prog_12_method_42_code 7 = .ok (.aload_n 0, 1) := by decide +kernel
theorem d_MO_decode_8 : decode prog_12_method_42_code 8 = .ok (.getfield 124, 3) := by decide +kernel
theorem d_MO_decode_11 : decode prog_12_method_42_code 11 = .ok (.if_icmp .ge 101, 3) := by decide +kernel
theorem d_MO_decode_14 : decode prog_12_method_42_code 14 = .ok (.aload_n 0, 1) := by decide +kernel
theorem d_MO_decode_15 : decode prog_12_method_42_code 15 = .ok (.getfield 13, 3) := by decide +kernel
theorem d_MO_decode_18 : decode prog_12_method_42_code 18 = .ok (.iload 4, 2) := by decide +kernel
theorem d_MO_decode_20 : decode prog_12_method_42_code 20 = .ok (.iaload, 1) := by decide +kernel
theorem d_MO_decode_21 : decode prog_12_method_42_code 21 = .ok (.bipush 27, 2) := by decide +kernel
theorem d_MO_decode_23 : decode prog_12_method_42_code 23 = .ok (.if_icmp .ne 18, 3) := by decide +kernel
theorem d_MO_decode_26 : decode prog_12_method_42_code 26 = .ok (.aload_n 0, 1) := by decide +kernel
theorem d_MO_decode_27 : decode prog_12_method_42_code 27 = .ok (.getfield 13, 3) := by decide +kernel
theorem d_MO_decode_30 : decode prog_12_method_42_code 30 = .ok (.iload 4, 2) := by decide +kernel
theorem d_MO_decode_32 : decode prog_12_method_42_code 32 = .ok (.iconst 1, 1) := by decide +kernel
theorem d_MO_decode_33 : decode prog_12_method_42_code 33 = .ok (.iadd, 1) := by decide +kernel
theorem d_MO_decode_34 : decode prog_12_method_42_code 34 = .ok (.iaload, 1) := by decide +kernel
theorem d_MO_decode_35 : decode prog_12_method_42_code 35 = .ok (.invokestatic 128, 3) := by decide +kernel
theorem d_MO_decode_38 : decode prog_12_method_42_code 38 = .ok (.goto 13, 3) := by decide +kernel
theorem d_MO_decode_41 : decode prog_12_method_42_code 41 = .ok (.aload_n 0, 1) := by decide +kernel
theorem d_MO_decode_42 : decode prog_12_method_42_code 42 = .ok (.getfield 13, 3) := by decide +kernel
theorem d_MO_decode_45 : decode prog_12_method_42_code 45 = .ok (.iload 4, 2) := by decide +kernel
theorem d_MO_decode_47 : decode prog_12_method_42_code 47 = .ok (.iaload, 1) := by decide +kernel
theorem d_MO_decode_48 : decode prog_12_method_42_code 48 = .ok (.invokestatic 121, 3) := by decide +kernel
theorem d_MO_decode_51 : decode prog_12_method_42_code 51 = .ok (.istore 5, 2) := by decide +kernel
theorem d_MO_decode_53 : decode prog_12_method_42_code 53 = .ok (.aload_n 0, 1) := by decide +kernel
theorem d_MO_decode_54 : decode prog_12_method_42_code 54 = .ok (.getfield 13, 3) := by decide +kernel
theorem d_MO_decode_57 : decode prog_12_method_42_code 57 = .ok (.iload 4, 2) := by decide +kernel
theorem d_MO_decode_59 : decode prog_12_method_42_code 59 = .ok (.iaload, 1) := by decide +kernel
theorem d_MO_decode_60 : decode prog_12_method_42_code 60 = .ok (.bipush 27, 2) := by decide +kernel
theorem d_MO_decode_62 : decode prog_12_method_42_code 62 = .ok (.if_icmp .ne 10, 3) := by decide +kernel
theorem d_MO_decode_65 : decode prog_12_method_42_code 65 = .ok (.iload 4, 2) := by decide +kernel
theorem d_MO_decode_67 : decode prog_12_method_42_code 67 = .ok (.iconst 1, 1) := by decide +kernel
theorem d_MO_decode_68 : decode prog_12_method_42_code 68 = .ok (.iadd, 1) := by decide +kernel
theorem d_MO_decode_69 : decode prog_12_method_42_code 69 = .ok (.goto 5, 3) := by decide +kernel
theorem d_MO_decode_72 : decode prog_12_method_42_code 72 = .ok (.iload 4, 2) := by decide +kernel
theorem d_MO_decode_74 : decode prog_12_method_42_code 74 = .ok (.istore 4, 2) := by decide +kernel
theorem d_MO_decode_76 : decode prog_12_method_42_code 76 = .ok (.iload_n 2, 1) := by decide +kernel
theorem d_MO_decode_77 : decode prog_12_method_42_code 77 = .ok (.ifCond .eq 16, 3) := by decide +kernel
theorem d_MO_decode_80 : decode prog_12_method_42_code 80 = .ok (.aload_n 0, 1) := by decide +kernel
theorem d_MO_decode_81 : decode prog_12_method_42_code 81 = .ok (.getfield 33, 3) := by decide +kernel
theorem d_MO_decode_84 : decode prog_12_method_42_code 84 = .ok (.iload_n 1, 1) := by decide +kernel
theorem d_MO_decode_85 : decode prog_12_method_42_code 85 = .ok (.iload_n 3, 1) := by decide +kernel
theorem d_MO_decode_86 : decode prog_12_method_42_code 86 = .ok (.iadd, 1) := by decide +kernel
theorem d_MO_decode_87 : decode prog_12_method_42_code 87 = .ok (.iload 5, 2) := by decide +kernel
theorem d_MO_decode_89 : decode prog_12_method_42_code 89 = .ok (.iastore, 1) := by decide +kernel
theorem d_MO_decode_90 : decode prog_12_method_42_code 90 = .ok (.goto 13, 3) := by decide +kernel
theorem d_MO_decode_93 : decode prog_12_method_42_code 93 = .ok (.aload_n 0, 1) := by decide +kernel
theorem d_MO_decode_94 : decode prog_12_method_42_code 94 = .ok (.getfield 114, 3) := by decide +kernel
theorem d_MO_decode_97 : decode prog_12_method_42_code 97 = .ok (.iload_n 1, 1) := by decide +kernel
theorem d_MO_decode_98 : decode prog_12_method_42_code 98 = .ok (.iload_n 3, 1) := by decide +kernel
theorem d_MO_decode_99 : decode prog_12_method_42_code 99 = .ok (.iadd, 1) := by decide +kernel
theorem d_MO_decode_100 : decode prog_12_method_42_code 100 = .ok (.iload 5, 2) := by decide +kernel
theorem d_MO_decode_102 : decode prog_12_method_42_code 102 = .ok (.iastore, 1) := by decide +kernel
theorem d_MO_decode_103 : decode prog_12_method_42_code 103 = .ok (.iinc 3 1, 3) := by decide +kernel
theorem d_MO_decode_106 : decode prog_12_method_42_code 106 = .ok (.iinc 4 1, 3) := by decide +kernel
theorem d_MO_decode_109 : decode prog_12_method_42_code 109 = .ok (.goto (-104), 3) := by decide +kernel
theorem d_MO_decode_112 : decode prog_12_method_42_code 112 = .ok (.iload_n 3, 1) := by decide +kernel
theorem d_MO_decode_113 : decode prog_12_method_42_code 113 = .ok (.ireturn, 1) := by decide +kernel
theorem d_MO_movePile_0 : decode prog_12_method_43_code 0 = .ok (.aload_n 0, 1) := by decide +kernel
theorem d_MO_movePile_1 : decode prog_12_method_43_code 1 = .ok (.getfield 99, 3) := by decide +kernel
theorem d_MO_movePile_4 : decode prog_12_method_43_code 4 = .ok (.iload_n 1, 1) := by decide +kernel
theorem d_MO_movePile_5 : decode prog_12_method_43_code 5 = .ok (.aload_n 0, 1) := by decide +kernel
theorem d_MO_movePile_6 : decode prog_12_method_43_code 6 = .ok (.getfield 99, 3) := by decide +kernel
theorem d_MO_movePile_9 : decode prog_12_method_43_code 9 = .ok (.iload_n 2, 1) := by decide +kernel
theorem d_MO_movePile_10 : decode prog_12_method_43_code 10 = .ok (.laload, 1) := by decide +kernel
theorem d_MO_movePile_11 : decode prog_12_method_43_code 11 = .ok (.lastore, 1) := by decide +kernel
theorem d_MO_movePile_12 : decode prog_12_method_43_code 12 = .ok (.aload_n 0, 1) := by decide +kernel
theorem d_MO_movePile_13 : decode prog_12_method_43_code 13 = .ok (.getfield 102, 3) := by decide +kernel
theorem d_MO_movePile_16 : decode prog_12_method_43_code 16 = .ok (.iload_n 1, 1) := by decide +kernel
theorem d_MO_movePile_17 : decode prog_12_method_43_code 17 = .ok (.aload_n 0, 1) := by decide +kernel
theorem d_MO_movePile_18 : decode prog_12_method_43_code 18 = .ok (.getfield 102, 3) := by decide +kernel
theorem d_MO_movePile_21 : decode prog_12_method_43_code 21 = .ok (.iload_n 2, 1) := by decide +kernel
theorem d_MO_movePile_22 : decode prog_12_method_43_code 22 = .ok (.iaload, 1) := by decide +kernel
theorem d_MO_movePile_23 : decode prog_12_method_43_code 23 = .ok (.iastore, 1) := by decide +kernel
theorem d_MO_movePile_24 : decode prog_12_method_43_code 24 = .ok (.aload_n 0, 1) := by decide +kernel
theorem d_MO_movePile_25 : decode prog_12_method_43_code 25 = .ok (.getfield 105, 3) := by decide +kernel
theorem d_MO_movePile_28 : decode prog_12_method_43_code 28 = .ok (.iload_n 1, 1) := by decide +kernel
theorem d_MO_movePile_29 : decode prog_12_method_43_code 29 = .ok (.aload_n 0, 1) := by decide +kernel
theorem d_MO_movePile_30 : decode prog_12_method_43_code 30 = .ok (.getfield 105, 3) := by decide +kernel
theorem d_MO_movePile_33 : decode prog_12_method_43_code 33 = .ok (.iload_n 2, 1) := by decide +kernel
theorem d_MO_movePile_34 : decode prog_12_method_43_code 34 = .ok (.iaload, 1) := by decide +kernel
theorem d_MO_movePile_35 : decode prog_12_method_43_code 35 = .ok (.iastore, 1) := by decide +kernel
theorem d_MO_movePile_36 : decode prog_12_method_43_code 36 = .ok (.iconst 0, 1) := by decide +kernel
theorem d_MO_movePile_37 : decode prog_12_method_43_code 37 = .ok (.istore_n 3, 1) := by decide +kernel
theorem d_MO_movePile_38 : decode prog_12_method_43_code 38 = .ok (.iload_n 3, 1) := by decide +kernel
theorem d_MO_movePile_39 : decode prog_12_method_43_code 39 = .ok (.iconst 3, 1) := by decide +kernel
theorem d_MO_movePile_40 : decode prog_12_method_43_code 40 = .ok (.if_icmp .ge 29, 3) := by decide +kernel
theorem d_MO_movePile_43 : decode prog_12_method_43_code 43 = .ok (.aload_n 0, 1) := by decide +kernel
theorem d_MO_movePile_44 : decode prog_12_method_43_code 44 = .ok (.getfield 111, 3) := by decide +kernel
theorem d_MO_movePile_47 : decode prog_12_method_43_code 47 = .ok (.iconst 3, 1) := by decide +kernel
theorem d_MO_movePile_48 : decode prog_12_method_43_code 48 = .ok (.iload_n 1, 1) := by decide +kernel
theorem d_MO_movePile_49 : decode prog_12_method_43_code 49 = .ok (.imul, 1) := by decide +kernel
theorem d_MO_movePile_50 : decode prog_12_method_43_code 50 = .ok (.iload_n 3, 1) := by decide +kernel
theorem d_MO_movePile_51 : decode prog_12_method_43_code 51 = .ok (.iadd, 1) := by decide +kernel
theorem d_MO_movePile_52 : decode prog_12_method_43_code 52 = .ok (.aload_n 0, 1) := by decide +kernel
theorem d_MO_movePile_53 : decode prog_12_method_43_code 53 = .ok (.getfield 111, 3) := by decide +kernel
theorem d_MO_movePile_56 : decode prog_12_method_43_code 56 = .ok (.iconst 3, 1) := by decide +kernel
theorem d_MO_movePile_57 : decode prog_12_method_43_code 57 = .ok (.iload_n 2, 1) := by decide +kernel
theorem d_MO_movePile_58 : decode prog_12_method_43_code 58 = .ok (.imul, 1) := by decide +kernel
theorem d_MO_movePile_59 : decode prog_12_method_43_code 59 = .ok (.iload_n 3, 1) := by decide +kernel
theorem d_MO_movePile_60 : decode prog_12_method_43_code 60 = .ok (.iadd, 1) := by decide +kernel
theorem d_MO_movePile_61 : decode prog_12_method_43_code 61 = .ok (.iaload, 1) := by decide +kernel
theorem d_MO_movePile_62 : decode prog_12_method_43_code 62 = .ok (.iastore, 1) := by decide +kernel
theorem d_MO_movePile_63 : decode prog_12_method_43_code 63 = .ok (.iinc 3 1, 3) := by decide +kernel
theorem d_MO_movePile_66 : decode prog_12_method_43_code 66 = .ok (.goto (-28), 3) := by decide +kernel
theorem d_MO_movePile_69 : decode prog_12_method_43_code 69 = .ok (.iconst 0, 1) := by decide +kernel
theorem d_MO_movePile_70 : decode prog_12_method_43_code 70 = .ok (.istore_n 3, 1) := by decide +kernel
theorem d_MO_movePile_71 : decode prog_12_method_43_code 71 = .ok (.iload_n 3, 1) := by decide +kernel
theorem d_MO_movePile_72 : decode prog_12_method_43_code 72 = .ok (.sipush 459, 3) := by decide +kernel
theorem d_MO_movePile_75 : decode prog_12_method_43_code 75 = .ok (.if_icmp .ge 33, 3) := by decide +kernel
theorem d_MO_movePile_78 : decode prog_12_method_43_code 78 = .ok (.aload_n 0, 1) := by decide +kernel
theorem d_MO_movePile_79 : decode prog_12_method_43_code 79 = .ok (.getfield 114, 3) := by decide +kernel
theorem d_MO_movePile_82 : decode prog_12_method_43_code 82 = .ok (.sipush 459, 3) := by decide +kernel
theorem d_MO_movePile_85 : decode prog_12_method_43_code 85 = .ok (.iload_n 1, 1) := by decide +kernel
theorem d_MO_movePile_86 : decode prog_12_method_43_code 86 = .ok (.imul, 1) := by decide +kernel
theorem d_MO_movePile_87 : decode prog_12_method_43_code 87 = .ok (.iload_n 3, 1) := by decide +kernel
theorem d_MO_movePile_88 : decode prog_12_method_43_code 88 = .ok (.iadd, 1) := by decide +kernel
theorem d_MO_movePile_89 : decode prog_12_method_43_code 89 = .ok (.aload_n 0, 1) := by decide +kernel
theorem d_MO_movePile_90 : decode prog_12_method_43_code 90 = .ok (.getfield 114, 3) := by decide +kernel
theorem d_MO_movePile_93 : decode prog_12_method_43_code 93 = .ok (.sipush 459, 3) := by decide +kernel
theorem d_MO_movePile_96 : decode prog_12_method_43_code 96 = .ok (.iload_n 2, 1) := by decide +kernel
theorem d_MO_movePile_97 : decode prog_12_method_43_code 97 = .ok (.imul, 1) := by decide +kernel
theorem d_MO_movePile_98 : decode prog_12_method_43_code 98 = .ok (.iload_n 3, 1) := by decide +kernel
theorem d_MO_movePile_99 : decode prog_12_method_43_code 99 = .ok (.iadd, 1) := by decide +kernel
theorem d_MO_movePile_100 : decode prog_12_method_43_code 100 = .ok (.iaload, 1) := by decide +kernel
theorem d_MO_movePile_101 : decode prog_12_method_43_code 101 = .ok (.iastore, 1) := by decide +kernel
theorem d_MO_movePile_102 : decode prog_12_method_43_code 102 = .ok (.iinc 3 1, 3) := by decide +kernel
theorem d_MO_movePile_105 : decode prog_12_method_43_code 105 = .ok (.goto (-34), 3) := by decide +kernel
theorem d_MO_movePile_108 : decode prog_12_method_43_code 108 = .ok (.return_, 1) := by decide +kernel
theorem d_MO_dropPile_0 : decode prog_12_method_44_code 0 = .ok (.aload_n 0, 1) := by decide +kernel
theorem d_MO_dropPile_1 : decode prog_12_method_44_code 1 = .ok (.getfield 108, 3) := by decide +kernel
theorem d_MO_dropPile_4 : decode prog_12_method_44_code 4 = .ok (.iload_n 1, 1) := by decide +kernel
theorem d_MO_dropPile_5 : decode prog_12_method_44_code 5 = .ok (.dup2, 1) := by decide +kernel
theorem d_MO_dropPile_6 : decode prog_12_method_44_code 6 = .ok (.iaload, 1) := by decide +kernel
theorem d_MO_dropPile_7 : decode prog_12_method_44_code 7 = .ok (.iconst 1, 1) := by decide +kernel
theorem d_MO_dropPile_8 : decode prog_12_method_44_code 8 = .ok (.isub, 1) := by decide +kernel
theorem d_MO_dropPile_9 : decode prog_12_method_44_code 9 = .ok (.iastore, 1) := by decide +kernel
theorem d_MO_dropPile_10 : decode prog_12_method_44_code 10 = .ok (.iload_n 2, 1) := by decide +kernel
theorem d_MO_dropPile_11 : decode prog_12_method_44_code 11 = .ok (.istore_n 3, 1) := by decide +kernel
theorem d_MO_dropPile_12 : decode prog_12_method_44_code 12 = .ok (.iload_n 3, 1) := by decide +kernel
theorem d_MO_dropPile_13 : decode prog_12_method_44_code 13 = .ok (.aload_n 0, 1) := by decide +kernel
theorem d_MO_dropPile_14 : decode prog_12_method_44_code 14 = .ok (.getfield 108, 3) := by decide +kernel
theorem d_MO_dropPile_17 : decode prog_12_method_44_code 17 = .ok (.iload_n 1, 1) := by decide +kernel
theorem d_MO_dropPile_18 : decode prog_12_method_44_code 18 = .ok (.iaload, 1) := by decide +kernel
theorem d_MO_dropPile_19 : decode prog_12_method_44_code 19 = .ok (.if_icmp .ge 25, 3) := by decide +kernel
theorem d_MO_dropPile_22 : decode prog_12_method_44_code 22 = .ok (.aload_n 0, 1) := by decide +kernel
theorem d_MO_dropPile_23 : decode prog_12_method_44_code 23 = .ok (.iconst 3, 1) := by decide +kernel
theorem d_MO_dropPile_24 : decode prog_12_method_44_code 24 = .ok (.iload_n 1, 1) := by decide +kernel
theorem d_MO_dropPile_25 : decode prog_12_method_44_code 25 = .ok (.imul, 1) := by decide +kernel
theorem d_MO_dropPile_26 : decode prog_12_method_44_code 26 = .ok (.iload_n 3, 1) := by decide +kernel
theorem d_MO_dropPile_27 : decode prog_12_method_44_code 27 = .ok (.iadd, 1) := by decide +kernel
theorem d_MO_dropPile_28 : decode prog_12_method_44_code 28 = .ok (.iconst 3, 1) := by decide +kernel
theorem d_MO_dropPile_29 : decode prog_12_method_44_code 29 = .ok (.iload_n 1, 1) := by decide +kernel
theorem d_MO_dropPile_30 : decode prog_12_method_44_code 30 = .ok (.imul, 1) := by decide +kernel
theorem d_MO_dropPile_31 : decode prog_12_method_44_code 31 = .ok (.iload_n 3, 1) := by decide +kernel
theorem d_MO_dropPile_32 : decode prog_12_method_44_code 32 = .ok (.iadd, 1) := by decide +kernel
theorem d_MO_dropPile_33 : decode prog_12_method_44_code 33 = .ok (.iconst 1, 1) := by decide +kernel
theorem d_MO_dropPile_34 : decode prog_12_method_44_code 34 = .ok (.iadd, 1) := by decide +kernel
theorem d_MO_dropPile_35 : decode prog_12_method_44_code 35 = .ok (.invokevirtual 253, 3) := by decide +kernel
theorem d_MO_dropPile_38 : decode prog_12_method_44_code 38 = .ok (.iinc 3 1, 3) := by decide +kernel
theorem d_MO_dropPile_41 : decode prog_12_method_44_code 41 = .ok (.goto (-29), 3) := by decide +kernel
theorem d_MO_dropPile_44 : decode prog_12_method_44_code 44 = .ok (.return_, 1) := by decide +kernel
theorem d_MO_pileFor_0 : decode prog_12_method_45_code 0 = .ok (.iconst 0, 1) := by decide +kernel
theorem d_MO_pileFor_1 : decode prog_12_method_45_code 1 = .ok (.istore 6, 2) := by decide +kernel
theorem d_MO_pileFor_3 : decode prog_12_method_45_code 3 = .ok (.iload 6, 2) := by decide +kernel
theorem d_MO_pileFor_5 : decode prog_12_method_45_code 5 = .ok (.aload_n 0, 1) := by decide +kernel
theorem d_MO_pileFor_6 : decode prog_12_method_45_code 6 = .ok (.getfield 108, 3) := by decide +kernel
theorem d_MO_pileFor_9 : decode prog_12_method_45_code 9 = .ok (.iload_n 1, 1) := by decide +kernel
theorem d_MO_pileFor_10 : decode prog_12_method_45_code 10 = .ok (.iaload, 1) := by decide +kernel
theorem d_MO_pileFor_11 : decode prog_12_method_45_code 11 = .ok (.if_icmp .ge 60, 3) := by decide +kernel
theorem d_MO_pileFor_14 : decode prog_12_method_45_code 14 = .ok (.aload_n 0, 1) := by decide +kernel
theorem d_MO_pileFor_15 : decode prog_12_method_45_code 15 = .ok (.getfield 99, 3) := by decide +kernel
theorem d_MO_pileFor_18 : decode prog_12_method_45_code 18 = .ok (.iconst 3, 1) := by decide +kernel
theorem d_MO_pileFor_19 : decode prog_12_method_45_code 19 = .ok (.iload_n 1, 1) := by decide +kernel
theorem d_MO_pileFor_20 : decode prog_12_method_45_code 20 = .ok (.imul, 1) := by decide +kernel
theorem d_MO_pileFor_21 : decode prog_12_method_45_code 21 = .ok (.iload 6, 2) := by decide +kernel
theorem d_MO_pileFor_23 : decode prog_12_method_45_code 23 = .ok (.iadd, 1) := by decide +kernel
theorem d_MO_pileFor_24 : decode prog_12_method_45_code 24 = .ok (.laload, 1) := by decide +kernel
theorem d_MO_pileFor_25 : decode prog_12_method_45_code 25 = .ok (.lload_n 2, 1) := by decide +kernel
theorem d_MO_pileFor_26 : decode prog_12_method_45_code 26 = .ok (.lcmp, 1) := by decide +kernel
theorem d_MO_pileFor_27 : decode prog_12_method_45_code 27 = .ok (.ifCond .ne 38, 3) := by decide +kernel
theorem d_MO_pileFor_30 : decode prog_12_method_45_code 30 = .ok (.aload_n 0, 1) := by decide +kernel
theorem d_MO_pileFor_31 : decode prog_12_method_45_code 31 = .ok (.getfield 102, 3) := by decide +kernel
theorem d_MO_pileFor_34 : decode prog_12_method_45_code 34 = .ok (.iconst 3, 1) := by decide +kernel
theorem d_MO_pileFor_35 : decode prog_12_method_45_code 35 = .ok (.iload_n 1, 1) := by decide +kernel
theorem d_MO_pileFor_36 : decode prog_12_method_45_code 36 = .ok (.imul, 1) := by decide +kernel
theorem d_MO_pileFor_37 : decode prog_12_method_45_code 37 = .ok (.iload 6, 2) := by decide +kernel
theorem d_MO_pileFor_39 : decode prog_12_method_45_code 39 = .ok (.iadd, 1) := by decide +kernel
theorem d_MO_pileFor_40 : decode prog_12_method_45_code 40 = .ok (.iaload, 1) := by decide +kernel
theorem d_MO_pileFor_41 : decode prog_12_method_45_code 41 = .ok (.iload 4, 2) := by decide +kernel
theorem d_MO_pileFor_43 : decode prog_12_method_45_code 43 = .ok (.if_icmp .ne 22, 3) := by decide +kernel
theorem d_MO_pileFor_46 : decode prog_12_method_45_code 46 = .ok (.aload_n 0, 1) := by decide +kernel
theorem d_MO_pileFor_47 : decode prog_12_method_45_code 47 = .ok (.getfield 105, 3) := by decide +kernel
theorem d_MO_pileFor_50 : decode prog_12_method_45_code 50 = .ok (.iconst 3, 1) := by decide +kernel
theorem d_MO_pileFor_51 : decode prog_12_method_45_code 51 = .ok (.iload_n 1, 1) := by decide +kernel
theorem d_MO_pileFor_52 : decode prog_12_method_45_code 52 = .ok (.imul, 1) := by decide +kernel
theorem d_MO_pileFor_53 : decode prog_12_method_45_code 53 = .ok (.iload 6, 2) := by decide +kernel
theorem d_MO_pileFor_55 : decode prog_12_method_45_code 55 = .ok (.iadd, 1) := by decide +kernel
theorem d_MO_pileFor_56 : decode prog_12_method_45_code 56 = .ok (.iaload, 1) := by decide +kernel
theorem d_MO_pileFor_57 : decode prog_12_method_45_code 57 = .ok (.iload 5, 2) := by decide +kernel
theorem d_MO_pileFor_59 : decode prog_12_method_45_code 59 = .ok (.if_icmp .ne 6, 3) := by decide +kernel
theorem d_MO_pileFor_62 : decode prog_12_method_45_code 62 = .ok (.iload 6, 2) := by decide +kernel
theorem d_MO_pileFor_64 : decode prog_12_method_45_code 64 = .ok (.ireturn, 1) := by decide +kernel
theorem d_MO_pileFor_65 : decode prog_12_method_45_code 65 = .ok (.iinc 6 1, 3) := by decide +kernel
theorem d_MO_pileFor_68 : decode prog_12_method_45_code 68 = .ok (.goto (-65), 3) := by decide +kernel
theorem d_MO_pileFor_71 : decode prog_12_method_45_code 71 = .ok (.aload_n 0, 1) := by decide +kernel
theorem d_MO_pileFor_72 : decode prog_12_method_45_code 72 = .ok (.getfield 108, 3) := by decide +kernel
theorem d_MO_pileFor_75 : decode prog_12_method_45_code 75 = .ok (.iload_n 1, 1) := by decide +kernel
theorem d_MO_pileFor_76 : decode prog_12_method_45_code 76 = .ok (.iaload, 1) := by decide +kernel
theorem d_MO_pileFor_77 : decode prog_12_method_45_code 77 = .ok (.iconst 3, 1) := by decide +kernel
theorem d_MO_pileFor_78 : decode prog_12_method_45_code 78 = .ok (.if_icmp .ne 9, 3) := by decide +kernel
theorem d_MO_pileFor_81 : decode prog_12_method_45_code 81 = .ok (.aload_n 0, 1) := by decide +kernel
theorem d_MO_pileFor_82 : decode prog_12_method_45_code 82 = .ok (.iload_n 1, 1) := by decide +kernel
theorem d_MO_pileFor_83 : decode prog_12_method_45_code 83 = .ok (.iconst 0, 1) := by decide +kernel
theorem d_MO_pileFor_84 : decode prog_12_method_45_code 84 = .ok (.invokevirtual 256, 3) := by decide +kernel
theorem d_MO_pileFor_87 : decode prog_12_method_45_code 87 = .ok (.iconst 3, 1) := by decide +kernel
theorem d_MO_pileFor_88 : decode prog_12_method_45_code 88 = .ok (.iload_n 1, 1) := by decide +kernel
theorem d_MO_pileFor_89 : decode prog_12_method_45_code 89 = .ok (.imul, 1) := by decide +kernel
theorem d_MO_pileFor_90 : decode prog_12_method_45_code 90 = .ok (.aload_n 0, 1) := by decide +kernel
theorem d_MO_pileFor_91 : decode prog_12_method_45_code 91 = .ok (.getfield 108, 3) := by decide +kernel
theorem d_MO_pileFor_94 : decode prog_12_method_45_code 94 = .ok (.iload_n 1, 1) := by decide +kernel
theorem d_MO_pileFor_95 : decode prog_12_method_45_code 95 = .ok (.iaload, 1) := by decide +kernel
theorem d_MO_pileFor_96 : decode prog_12_method_45_code 96 = .ok (.iadd, 1) := by decide +kernel
theorem d_MO_pileFor_97 : decode prog_12_method_45_code 97 = .ok (.istore 6, 2) := by decide +kernel
theorem d_MO_pileFor_99 : decode prog_12_method_45_code 99 = .ok (.aload_n 0, 1) := by decide +kernel
theorem d_MO_pileFor_100 : decode prog_12_method_45_code 100 = .ok (.getfield 99, 3) := by decide +kernel
theorem d_MO_pileFor_103 : decode prog_12_method_45_code 103 = .ok (.iload 6, 2) := by decide +kernel
theorem d_MO_pileFor_105 : decode prog_12_method_45_code 105 = .ok (.lload_n 2, 1) := by decide +kernel
theorem d_MO_pileFor_106 : decode prog_12_method_45_code 106 = .ok (.lastore, 1) := by decide +kernel
theorem d_MO_pileFor_107 : decode prog_12_method_45_code 107 = .ok (.aload_n 0, 1) := by decide +kernel
theorem d_MO_pileFor_108 : decode prog_12_method_45_code 108 = .ok (.getfield 102, 3) := by decide +kernel
theorem d_MO_pileFor_111 : decode prog_12_method_45_code 111 = .ok (.iload 6, 2) := by decide +kernel
theorem d_MO_pileFor_113 : decode prog_12_method_45_code 113 = .ok (.iload 4, 2) := by decide +kernel
theorem d_MO_pileFor_115 : decode prog_12_method_45_code 115 = .ok (.iastore, 1) := by decide +kernel
theorem d_MO_pileFor_116 : decode prog_12_method_45_code 116 = .ok (.aload_n 0, 1) := by decide +kernel
theorem d_MO_pileFor_117 : decode prog_12_method_45_code 117 = .ok (.getfield 105, 3) := by decide +kernel
theorem d_MO_pileFor_120 : decode prog_12_method_45_code 120 = .ok (.iload 6, 2) := by decide +kernel
theorem d_MO_pileFor_122 : decode prog_12_method_45_code 122 = .ok (.iload 5, 2) := by decide +kernel
theorem d_MO_pileFor_124 : decode prog_12_method_45_code 124 = .ok (.iastore, 1) := by decide +kernel
theorem d_MO_pileFor_125 : decode prog_12_method_45_code 125 = .ok (.iconst 0, 1) := by decide +kernel
theorem d_MO_pileFor_126 : decode prog_12_method_45_code 126 = .ok (.istore 7, 2) := by decide +kernel
theorem d_MO_pileFor_128 : decode prog_12_method_45_code 128 = .ok (.iload 7, 2) := by decide +kernel
theorem d_MO_pileFor_130 : decode prog_12_method_45_code 130 = .ok (.iconst 3, 1) := by decide +kernel
theorem d_MO_pileFor_131 : decode prog_12_method_45_code 131 = .ok (.if_icmp .ge 22, 3) := by decide +kernel
theorem d_MO_pileFor_134 : decode prog_12_method_45_code 134 = .ok (.aload_n 0, 1) := by decide +kernel
theorem d_MO_pileFor_135 : decode prog_12_method_45_code 135 = .ok (.getfield 111, 3) := by decide +kernel
theorem d_MO_pileFor_138 : decode prog_12_method_45_code 138 = .ok (.iconst 3, 1) := by decide +kernel
theorem d_MO_pileFor_139 : decode prog_12_method_45_code 139 = .ok (.iload 6, 2) := by decide +kernel
theorem d_MO_pileFor_141 : decode prog_12_method_45_code 141 = .ok (.imul, 1) := by decide +kernel
theorem d_MO_pileFor_142 : decode prog_12_method_45_code 142 = .ok (.iload 7, 2) := by decide +kernel
theorem d_MO_pileFor_144 : decode prog_12_method_45_code 144 = .ok (.iadd, 1) := by decide +kernel
theorem d_MO_pileFor_145 : decode prog_12_method_45_code 145 = .ok (.iconst (-1), 1) := by decide +kernel
theorem d_MO_pileFor_146 : decode prog_12_method_45_code 146 = .ok (.iastore, 1) := by decide +kernel
theorem d_MO_pileFor_147 : decode prog_12_method_45_code 147 = .ok (.iinc 7 1, 3) := by decide +kernel
theorem d_MO_pileFor_150 : decode prog_12_method_45_code 150 = .ok (.goto (-22), 3) := by decide +kernel
theorem d_MO_pileFor_153 : decode prog_12_method_45_code 153 = .ok (.aload_n 0, 1) := by decide +kernel
theorem d_MO_pileFor_154 : decode prog_12_method_45_code 154 = .ok (.getfield 108, 3) := by decide +kernel
theorem d_MO_pileFor_157 : decode prog_12_method_45_code 157 = .ok (.iload_n 1, 1) := by decide +kernel
theorem d_MO_pileFor_158 : decode prog_12_method_45_code 158 = .ok (.dup2, 1) := by decide +kernel
theorem d_MO_pileFor_159 : decode prog_12_method_45_code 159 = .ok (.iaload, 1) := by decide +kernel
theorem d_MO_pileFor_160 : decode prog_12_method_45_code 160 = .ok (.iconst 1, 1) := by decide +kernel
theorem d_MO_pileFor_161 : decode prog_12_method_45_code 161 = .ok (.iadd, 1) := by decide +kernel
theorem d_MO_pileFor_162 : decode prog_12_method_45_code 162 = .ok (.iastore, 1) := by decide +kernel
theorem d_MO_pileFor_163 : decode prog_12_method_45_code 163 = .ok (.aload_n 0, 1) := by decide +kernel
theorem d_MO_pileFor_164 : decode prog_12_method_45_code 164 = .ok (.getfield 108, 3) := by decide +kernel
theorem d_MO_pileFor_167 : decode prog_12_method_45_code 167 = .ok (.iload_n 1, 1) := by decide +kernel
theorem d_MO_pileFor_168 : decode prog_12_method_45_code 168 = .ok (.iaload, 1) := by decide +kernel
theorem d_MO_pileFor_169 : decode prog_12_method_45_code 169 = .ok (.iconst 1, 1) := by decide +kernel
theorem d_MO_pileFor_170 : decode prog_12_method_45_code 170 = .ok (.isub, 1) := by decide +kernel
theorem d_MO_pileFor_171 : decode prog_12_method_45_code 171 = .ok (.ireturn, 1) := by decide +kernel
theorem d_MO_together_0 : decode prog_12_method_46_code 0 = .ok (.iconst 0, 1) := by decide +kernel
theorem d_MO_together_1 : decode prog_12_method_46_code 1 = .ok (.istore_n 3, 1) := by decide +kernel
theorem d_MO_together_2 : decode prog_12_method_46_code 2 = .ok (.iconst 0, 1) := by decide +kernel
theorem d_MO_together_3 : decode prog_12_method_46_code 3 = .ok (.istore 4, 2) := by decide +kernel
theorem d_MO_together_5 : decode prog_12_method_46_code 5 = .ok (.iload 4, 2) := by decide +kernel
theorem d_MO_together_7 : decode prog_12_method_46_code 7 = .ok (.aload_n 0, 1) := by decide +kernel
theorem d_MO_together_8 : decode prog_12_method_46_code 8 = .ok (.getfield 105, 3) := by decide +kernel
theorem d_MO_together_11 : decode prog_12_method_46_code 11 = .ok (.iload_n 2, 1) := by decide +kernel
theorem d_MO_together_12 : decode prog_12_method_46_code 12 = .ok (.iaload, 1) := by decide +kernel
theorem d_MO_together_13 : decode prog_12_method_46_code 13 = .ok (.if_icmp .ge 67, 3) := by decide +kernel
theorem d_MO_together_16 : decode prog_12_method_46_code 16 = .ok (.iconst 0, 1) := by decide +kernel
theorem d_MO_together_17 : decode prog_12_method_46_code 17 = .ok (.istore 5, 2) := by decide +kernel
theorem d_MO_together_19 : decode prog_12_method_46_code 19 = .ok (.iload 5, 2) := by decide +kernel
theorem d_MO_together_21 : decode prog_12_method_46_code 21 = .ok (.aload_n 0, 1) := by decide +kernel
theorem d_MO_together_22 : decode prog_12_method_46_code 22 = .ok (.getfield 111, 3) := by decide +kernel
theorem d_MO_together_25 : decode prog_12_method_46_code 25 = .ok (.iconst 3, 1) := by decide +kernel
theorem d_MO_together_26 : decode prog_12_method_46_code 26 = .ok (.iload_n 2, 1) := by decide +kernel
theorem d_MO_together_27 : decode prog_12_method_46_code 27 = .ok (.imul, 1) := by decide +kernel
theorem d_MO_together_28 : decode prog_12_method_46_code 28 = .ok (.iload 4, 2) := by decide +kernel
theorem d_MO_together_30 : decode prog_12_method_46_code 30 = .ok (.iadd, 1) := by decide +kernel
theorem d_MO_together_31 : decode prog_12_method_46_code 31 = .ok (.iaload, 1) := by decide +kernel
theorem d_MO_together_32 : decode prog_12_method_46_code 32 = .ok (.if_icmp .ge 42, 3) := by decide +kernel
theorem d_MO_together_35 : decode prog_12_method_46_code 35 = .ok (.aload_n 0, 1) := by decide +kernel
theorem d_MO_together_36 : decode prog_12_method_46_code 36 = .ok (.getfield 33, 3) := by decide +kernel
theorem d_MO_together_39 : decode prog_12_method_46_code 39 = .ok (.sipush 480, 3) := by decide +kernel
theorem d_MO_together_42 : decode prog_12_method_46_code 42 = .ok (.iload_n 1, 1) := by decide +kernel
theorem d_MO_together_43 : decode prog_12_method_46_code 43 = .ok (.imul, 1) := by decide +kernel
theorem d_MO_together_44 : decode prog_12_method_46_code 44 = .ok (.iload_n 3, 1) := by decide +kernel
theorem d_MO_together_45 : decode prog_12_method_46_code 45 = .ok (.iadd, 1) := by decide +kernel
theorem d_MO_together_46 : decode prog_12_method_46_code 46 = .ok (.aload_n 0, 1) := by decide +kernel
theorem d_MO_together_47 : decode prog_12_method_46_code 47 = .ok (.getfield 114, 3) := by decide +kernel
theorem d_MO_together_50 : decode prog_12_method_46_code 50 = .ok (.sipush 153, 3) := by decide +kernel
theorem d_MO_together_53 : decode prog_12_method_46_code 53 = .ok (.iconst 3, 1) := by decide +kernel
theorem d_MO_together_54 : decode prog_12_method_46_code 54 = .ok (.iload_n 2, 1) := by decide +kernel
theorem d_MO_together_55 : decode prog_12_method_46_code 55 = .ok (.imul, 1) := by decide +kernel
theorem d_MO_together_56 : decode prog_12_method_46_code 56 = .ok (.iload 4, 2) := by decide +kernel
theorem d_MO_together_58 : decode prog_12_method_46_code 58 = .ok (.iadd, 1) := by decide +kernel
theorem d_MO_together_59 : decode prog_12_method_46_code 59 = .ok (.imul, 1) := by decide +kernel
theorem d_MO_together_60 : decode prog_12_method_46_code 60 = .ok (.iload 5, 2) := by decide +kernel
theorem d_MO_together_62 : decode prog_12_method_46_code 62 = .ok (.iadd, 1) := by decide +kernel
theorem d_MO_together_63 : decode prog_12_method_46_code 63 = .ok (.iaload, 1) := by decide +kernel
theorem d_MO_together_64 : decode prog_12_method_46_code 64 = .ok (.iastore, 1) := by decide +kernel
theorem d_MO_together_65 : decode prog_12_method_46_code 65 = .ok (.iinc 3 1, 3) := by decide +kernel
theorem d_MO_together_68 : decode prog_12_method_46_code 68 = .ok (.iinc 5 1, 3) := by decide +kernel
theorem d_MO_together_71 : decode prog_12_method_46_code 71 = .ok (.goto (-52), 3) := by decide +kernel
theorem d_MO_together_74 : decode prog_12_method_46_code 74 = .ok (.iinc 4 1, 3) := by decide +kernel
theorem d_MO_together_77 : decode prog_12_method_46_code 77 = .ok (.goto (-72), 3) := by decide +kernel
theorem d_MO_together_80 : decode prog_12_method_46_code 80 = .ok (.aload_n 0, 1) := by decide +kernel
theorem d_MO_together_81 : decode prog_12_method_46_code 81 = .ok (.getfield 30, 3) := by decide +kernel
theorem d_MO_together_84 : decode prog_12_method_46_code 84 = .ok (.iload_n 1, 1) := by decide +kernel
theorem d_MO_together_85 : decode prog_12_method_46_code 85 = .ok (.iload_n 3, 1) := by decide +kernel
theorem d_MO_together_86 : decode prog_12_method_46_code 86 = .ok (.iastore, 1) := by decide +kernel
theorem d_MO_together_87 : decode prog_12_method_46_code 87 = .ok (.return_, 1) := by decide +kernel
theorem d_MO_take_0 : decode prog_12_method_47_code 0 = .ok (.iload_n 1, 1) := by decide +kernel
theorem d_MO_take_1 : decode prog_12_method_47_code 1 = .ok (.invokestatic 187, 3) := by decide +kernel
theorem d_MO_take_4 : decode prog_12_method_47_code 4 = .ok (.ifCond .ne 5, 3) := by decide +kernel
theorem d_MO_take_7 : decode prog_12_method_47_code 7 = .ok (.iconst (-1), 1) := by decide +kernel
theorem d_MO_take_8 : decode prog_12_method_47_code 8 = .ok (.ireturn, 1) := by decide +kernel
theorem d_MO_take_9 : decode prog_12_method_47_code 9 = .ok (.aload_n 0, 1) := by decide +kernel
theorem d_MO_take_10 : decode prog_12_method_47_code 10 = .ok (.getfield 51, 3) := by decide +kernel
theorem d_MO_take_13 : decode prog_12_method_47_code 13 = .ok (.iconst 1, 1) := by decide +kernel
theorem d_MO_take_14 : decode prog_12_method_47_code 14 = .ok (.iload_n 1, 1) := by decide +kernel
theorem d_MO_take_15 : decode prog_12_method_47_code 15 = .ok (.iadd, 1) := by decide +kernel
theorem d_MO_take_16 : decode prog_12_method_47_code 16 = .ok (.iaload, 1) := by decide +kernel
theorem d_MO_take_17 : decode prog_12_method_47_code 17 = .ok (.ifCond .ne 6, 3) := by decide +kernel
theorem d_MO_take_20 : decode prog_12_method_47_code 20 = .ok (.bipush (-100), 2) := by decide +kernel
theorem d_MO_take_22 : decode prog_12_method_47_code 22 = .ok (.ireturn, 1) := by decide +kernel
theorem d_MO_take_23 : decode prog_12_method_47_code 23 = .ok (.aload_n 0, 1) := by decide +kernel
theorem d_MO_take_24 : decode prog_12_method_47_code 24 = .ok (.iconst 1, 1) := by decide +kernel
theorem d_MO_take_25 : decode prog_12_method_47_code 25 = .ok (.iload_n 1, 1) := by decide +kernel
theorem d_MO_take_26 : decode prog_12_method_47_code 26 = .ok (.iadd, 1) := by decide +kernel
theorem d_MO_take_27 : decode prog_12_method_47_code 27 = .ok (.invokestatic 159, 3) := by decide +kernel
theorem d_MO_take_30 : decode prog_12_method_47_code 30 = .ok (.invokevirtual 217, 3) := by decide +kernel
theorem d_MO_take_33 : decode prog_12_method_47_code 33 = .ok (.aload_n 0, 1) := by decide +kernel
theorem d_MO_take_34 : decode prog_12_method_47_code 34 = .ok (.iconst 1, 1) := by decide +kernel
theorem d_MO_take_35 : decode prog_12_method_47_code 35 = .ok (.iload_n 1, 1) := by decide +kernel
theorem d_MO_take_36 : decode prog_12_method_47_code 36 = .ok (.iadd, 1) := by decide +kernel
theorem d_MO_take_37 : decode prog_12_method_47_code 37 = .ok (.invokevirtual 223, 3) := by decide +kernel
theorem d_MO_take_40 : decode prog_12_method_47_code 40 = .ok (.aload_n 0, 1) := by decide +kernel
theorem d_MO_take_41 : decode prog_12_method_47_code 41 = .ok (.getfield 39, 3) := by decide +kernel
theorem d_MO_take_44 : decode prog_12_method_47_code 44 = .ok (.iconst 0, 1) := by decide +kernel
theorem d_MO_take_45 : decode prog_12_method_47_code 45 = .ok (.iaload, 1) := by decide +kernel
theorem d_MO_take_46 : decode prog_12_method_47_code 46 = .ok (.bipush 68, 2) := by decide +kernel
theorem d_MO_take_48 : decode prog_12_method_47_code 48 = .ok (.if_icmp .ne 7, 3) := by decide +kernel
theorem d_MO_take_51 : decode prog_12_method_47_code 51 = .ok (.iconst 1, 1) := by decide +kernel
theorem d_MO_take_52 : decode prog_12_method_47_code 52 = .ok (.goto 4, 3) := by decide +kernel
theorem d_MO_take_55 : decode prog_12_method_47_code 55 = .ok (.iconst 0, 1) := by decide +kernel
theorem d_MO_take_56 : decode prog_12_method_47_code 56 = .ok (.istore_n 2, 1) := by decide +kernel
theorem d_MO_take_57 : decode prog_12_method_47_code 57 = .ok (.aload_n 0, 1) := by decide +kernel
theorem d_MO_take_58 : decode prog_12_method_47_code 58 = .ok (.iconst 1, 1) := by decide +kernel
theorem d_MO_take_59 : decode prog_12_method_47_code 59 = .ok (.invokevirtual 170, 3) := by decide +kernel
theorem d_MO_take_62 : decode prog_12_method_47_code 62 = .ok (.lstore_n 3, 1) := by decide +kernel
theorem d_MO_take_63 : decode prog_12_method_47_code 63 = .ok (.bipush 12, 2) := by decide +kernel
theorem d_MO_take_65 : decode prog_12_method_47_code 65 = .ok (.aload_n 0, 1) := by decide +kernel
theorem d_MO_take_66 : decode prog_12_method_47_code 66 = .ok (.getfield 39, 3) := by decide +kernel
theorem d_MO_take_69 : decode prog_12_method_47_code 69 = .ok (.iconst 1, 1) := by decide +kernel
theorem d_MO_take_70 : decode prog_12_method_47_code 70 = .ok (.iaload, 1) := by decide +kernel
theorem d_MO_take_71 : decode prog_12_method_47_code 71 = .ok (.iconst 1, 1) := by decide +kernel
theorem d_MO_take_72 : decode prog_12_method_47_code 72 = .ok (.iadd, 1) := by decide +kernel
theorem d_MO_take_73 : decode prog_12_method_47_code 73 = .ok (.iconst 2, 1) := by decide +kernel
theorem d_MO_take_74 : decode prog_12_method_47_code 74 = .ok (.idiv, 1) := by decide +kernel
theorem d_MO_take_75 : decode prog_12_method_47_code 75 = .ok (.iadd, 1) := by decide +kernel
theorem d_MO_take_76 : decode prog_12_method_47_code 76 = .ok (.istore 5, 2) := by decide +kernel
theorem d_MO_take_78 : decode prog_12_method_47_code 78 = .ok (.aload_n 0, 1) := by decide +kernel
theorem d_MO_take_79 : decode prog_12_method_47_code 79 = .ok (.iload 5, 2) := by decide +kernel
theorem d_MO_take_81 : decode prog_12_method_47_code 81 = .ok (.iload_n 2, 1) := by decide +kernel
theorem d_MO_take_82 : decode prog_12_method_47_code 82 = .ok (.invokevirtual 173, 3) := by decide +kernel
theorem d_MO_take_85 : decode prog_12_method_47_code 85 = .ok (.iload_n 2, 1) := by decide +kernel
theorem d_MO_take_86 : decode prog_12_method_47_code 86 = .ok (.ifCond .ne 33, 3) := by decide +kernel
theorem d_MO_take_89 : decode prog_12_method_47_code 89 = .ok (.aload_n 0, 1) := by decide +kernel
theorem d_MO_take_90 : decode prog_12_method_47_code 90 = .ok (.getfield 30, 3) := by decide +kernel
theorem d_MO_take_93 : decode prog_12_method_47_code 93 = .ok (.iload_n 1, 1) := by decide +kernel
theorem d_MO_take_94 : decode prog_12_method_47_code 94 = .ok (.aload_n 0, 1) := by decide +kernel
theorem d_MO_take_95 : decode prog_12_method_47_code 95 = .ok (.sipush 480, 3) := by decide +kernel
theorem d_MO_take_98 : decode prog_12_method_47_code 98 = .ok (.iload_n 1, 1) := by decide +kernel
theorem d_MO_take_99 : decode prog_12_method_47_code 99 = .ok (.imul, 1) := by decide +kernel
theorem d_MO_take_100 : decode prog_12_method_47_code 100 = .ok (.iconst 1, 1) := by decide +kernel
theorem d_MO_take_101 : decode prog_12_method_47_code 101 = .ok (.invokevirtual 259, 3) := by decide +kernel
theorem d_MO_take_104 : decode prog_12_method_47_code 104 = .ok (.iastore, 1) := by decide +kernel
theorem d_MO_take_105 : decode prog_12_method_47_code 105 = .ok (.aload_n 0, 1) := by decide +kernel
theorem d_MO_take_106 : decode prog_12_method_47_code 106 = .ok (.getfield 36, 3) := by decide +kernel
theorem d_MO_take_109 : decode prog_12_method_47_code 109 = .ok (.iload_n 1, 1) := by decide +kernel
theorem d_MO_take_110 : decode prog_12_method_47_code 110 = .ok (.lload_n 3, 1) := by decide +kernel
theorem d_MO_take_111 : decode prog_12_method_47_code 111 = .ok (.lastore, 1) := by decide +kernel
theorem d_MO_take_112 : decode prog_12_method_47_code 112 = .ok (.aload_n 0, 1) := by decide +kernel
theorem d_MO_take_113 : decode prog_12_method_47_code 113 = .ok (.getfield 30, 3) := by decide +kernel
theorem d_MO_take_116 : decode prog_12_method_47_code 116 = .ok (.iload_n 1, 1) := by decide +kernel
theorem d_MO_take_117 : decode prog_12_method_47_code 117 = .ok (.iaload, 1) := by decide +kernel
theorem d_MO_take_118 : decode prog_12_method_47_code 118 = .ok (.ireturn, 1) := by decide +kernel
theorem d_MO_take_119 : decode prog_12_method_47_code 119 = .ok (.aload_n 0, 1) := by decide +kernel
theorem d_MO_take_120 : decode prog_12_method_47_code 120 = .ok (.iload_n 1, 1) := by decide +kernel
theorem d_MO_take_121 : decode prog_12_method_47_code 121 = .ok (.lload_n 3, 1) := by decide +kernel
theorem d_MO_take_122 : decode prog_12_method_47_code 122 = .ok (.aload_n 0, 1) := by decide +kernel
theorem d_MO_take_123 : decode prog_12_method_47_code 123 = .ok (.getfield 39, 3) := by decide +kernel
theorem d_MO_take_126 : decode prog_12_method_47_code 126 = .ok (.iload 5, 2) := by decide +kernel
theorem d_MO_take_128 : decode prog_12_method_47_code 128 = .ok (.iconst 4, 1) := by decide +kernel
theorem d_MO_take_129 : decode prog_12_method_47_code 129 = .ok (.iadd, 1) := by decide +kernel
theorem d_MO_take_130 : decode prog_12_method_47_code 130 = .ok (.iaload, 1) := by decide +kernel
theorem d_MO_take_131 : decode prog_12_method_47_code 131 = .ok (.aload_n 0, 1) := by decide +kernel
theorem d_MO_take_132 : decode prog_12_method_47_code 132 = .ok (.getfield 39, 3) := by decide +kernel
theorem d_MO_take_135 : decode prog_12_method_47_code 135 = .ok (.iload 5, 2) := by decide +kernel
theorem d_MO_take_137 : decode prog_12_method_47_code 137 = .ok (.iconst 5, 1) := by decide +kernel
theorem d_MO_take_138 : decode prog_12_method_47_code 138 = .ok (.iadd, 1) := by decide +kernel
theorem d_MO_take_139 : decode prog_12_method_47_code 139 = .ok (.iaload, 1) := by decide +kernel
theorem d_MO_take_140 : decode prog_12_method_47_code 140 = .ok (.invokevirtual 263, 3) := by decide +kernel
theorem d_MO_take_143 : decode prog_12_method_47_code 143 = .ok (.istore 6, 2) := by decide +kernel
theorem d_MO_take_145 : decode prog_12_method_47_code 145 = .ok (.iconst 3, 1) := by decide +kernel
theorem d_MO_take_146 : decode prog_12_method_47_code 146 = .ok (.iload_n 1, 1) := by decide +kernel
theorem d_MO_take_147 : decode prog_12_method_47_code 147 = .ok (.imul, 1) := by decide +kernel
theorem d_MO_take_148 : decode prog_12_method_47_code 148 = .ok (.iload 6, 2) := by decide +kernel
theorem d_MO_take_150 : decode prog_12_method_47_code 150 = .ok (.iadd, 1) := by decide +kernel
theorem d_MO_take_151 : decode prog_12_method_47_code 151 = .ok (.istore 7, 2) := by decide +kernel
theorem d_MO_take_153 : decode prog_12_method_47_code 153 = .ok (.iconst 3, 1) := by decide +kernel
theorem d_MO_take_154 : decode prog_12_method_47_code 154 = .ok (.iload 7, 2) := by decide +kernel
theorem d_MO_take_156 : decode prog_12_method_47_code 156 = .ok (.imul, 1) := by decide +kernel
theorem d_MO_take_157 : decode prog_12_method_47_code 157 = .ok (.aload_n 0, 1) := by decide +kernel
theorem d_MO_take_158 : decode prog_12_method_47_code 158 = .ok (.getfield 39, 3) := by decide +kernel
theorem d_MO_take_161 : decode prog_12_method_47_code 161 = .ok (.iload 5, 2) := by decide +kernel
theorem d_MO_take_163 : decode prog_12_method_47_code 163 = .ok (.bipush 6, 2) := by decide +kernel
theorem d_MO_take_165 : decode prog_12_method_47_code 165 = .ok (.iadd, 1) := by decide +kernel
theorem d_MO_take_166 : decode prog_12_method_47_code 166 = .ok (.iaload, 1) := by decide +kernel
theorem d_MO_take_167 : decode prog_12_method_47_code 167 = .ok (.iadd, 1) := by decide +kernel
theorem d_MO_take_168 : decode prog_12_method_47_code 168 = .ok (.iconst 1, 1) := by decide +kernel
theorem d_MO_take_169 : decode prog_12_method_47_code 169 = .ok (.isub, 1) := by decide +kernel
theorem d_MO_take_170 : decode prog_12_method_47_code 170 = .ok (.istore 8, 2) := by decide +kernel
theorem d_MO_take_172 : decode prog_12_method_47_code 172 = .ok (.aload_n 0, 1) := by decide +kernel
theorem d_MO_take_173 : decode prog_12_method_47_code 173 = .ok (.getfield 111, 3) := by decide +kernel
theorem d_MO_take_176 : decode prog_12_method_47_code 176 = .ok (.iload 8, 2) := by decide +kernel
theorem d_MO_take_178 : decode prog_12_method_47_code 178 = .ok (.iaload, 1) := by decide +kernel
theorem d_MO_take_179 : decode prog_12_method_47_code 179 = .ok (.ifCond .ge 21, 3) := by decide +kernel
theorem d_MO_take_182 : decode prog_12_method_47_code 182 = .ok (.aload_n 0, 1) := by decide +kernel
theorem d_MO_take_183 : decode prog_12_method_47_code 183 = .ok (.getfield 111, 3) := by decide +kernel
theorem d_MO_take_186 : decode prog_12_method_47_code 186 = .ok (.iload 8, 2) := by decide +kernel
theorem d_MO_take_188 : decode prog_12_method_47_code 188 = .ok (.aload_n 0, 1) := by decide +kernel
theorem d_MO_take_189 : decode prog_12_method_47_code 189 = .ok (.sipush 153, 3) := by decide +kernel
theorem d_MO_take_192 : decode prog_12_method_47_code 192 = .ok (.iload 8, 2) := by decide +kernel
theorem d_MO_take_194 : decode prog_12_method_47_code 194 = .ok (.imul, 1) := by decide +kernel
theorem d_MO_take_195 : decode prog_12_method_47_code 195 = .ok (.iconst 0, 1) := by decide +kernel
theorem d_MO_take_196 : decode prog_12_method_47_code 196 = .ok (.invokevirtual 259, 3) := by decide +kernel
theorem d_MO_take_199 : decode prog_12_method_47_code 199 = .ok (.iastore, 1) := by decide +kernel
theorem d_MO_take_200 : decode prog_12_method_47_code 200 = .ok (.iconst 0, 1) := by decide +kernel
theorem d_MO_take_201 : decode prog_12_method_47_code 201 = .ok (.istore 9, 2) := by decide +kernel
theorem d_MO_take_203 : decode prog_12_method_47_code 203 = .ok (.iconst 0, 1) := by decide +kernel
theorem d_MO_take_204 : decode prog_12_method_47_code 204 = .ok (.istore 10, 2) := by decide +kernel
theorem d_MO_take_206 : decode prog_12_method_47_code 206 = .ok (.iload 10, 2) := by decide +kernel
theorem d_MO_take_208 : decode prog_12_method_47_code 208 = .ok (.aload_n 0, 1) := by decide +kernel
theorem d_MO_take_209 : decode prog_12_method_47_code 209 = .ok (.getfield 105, 3) := by decide +kernel
theorem d_MO_take_212 : decode prog_12_method_47_code 212 = .ok (.iload 7, 2) := by decide +kernel
theorem d_MO_take_214 : decode prog_12_method_47_code 214 = .ok (.iaload, 1) := by decide +kernel
theorem d_MO_take_215 : decode prog_12_method_47_code 215 = .ok (.if_icmp .ge 35, 3) := by decide +kernel
theorem d_MO_take_218 : decode prog_12_method_47_code 218 = .ok (.aload_n 0, 1) := by decide +kernel
theorem d_MO_take_219 : decode prog_12_method_47_code 219 = .ok (.getfield 111, 3) := by decide +kernel
theorem d_MO_take_222 : decode prog_12_method_47_code 222 = .ok (.iconst 3, 1) := by decide +kernel
theorem d_MO_take_223 : decode prog_12_method_47_code 223 = .ok (.iload 7, 2) := by decide +kernel
theorem d_MO_take_225 : decode prog_12_method_47_code 225 = .ok (.imul, 1) := by decide +kernel
theorem d_MO_take_226 : decode prog_12_method_47_code 226 = .ok (.iload 10, 2) := by decide +kernel
theorem d_MO_take_228 : decode prog_12_method_47_code 228 = .ok (.iadd, 1) := by decide +kernel
theorem d_MO_take_229 : decode prog_12_method_47_code 229 = .ok (.iaload, 1) := by decide +kernel
theorem d_MO_take_230 : decode prog_12_method_47_code 230 = .ok (.ifCond .ge 10, 3) := by decide +kernel
theorem d_MO_take_233 : decode prog_12_method_47_code 233 = .ok (.iload 9, 2) := by decide +kernel
theorem d_MO_take_235 : decode prog_12_method_47_code 235 = .ok (.iconst 1, 1) := by decide +kernel
theorem d_MO_take_236 : decode prog_12_method_47_code 236 = .ok (.iadd, 1) := by decide +kernel
theorem d_MO_take_237 : decode prog_12_method_47_code 237 = .ok (.goto 5, 3) := by decide +kernel
theorem d_MO_take_240 : decode prog_12_method_47_code 240 = .ok (.iload 9, 2) := by decide +kernel
theorem d_MO_take_242 : decode prog_12_method_47_code 242 = .ok (.istore 9, 2) := by decide +kernel
theorem d_MO_take_244 : decode prog_12_method_47_code 244 = .ok (.iinc 10 1, 3) := by decide +kernel
theorem d_MO_take_247 : decode prog_12_method_47_code 247 = .ok (.goto (-41), 3) := by decide +kernel
theorem d_MO_take_250 : decode prog_12_method_47_code 250 = .ok (.iload 9, 2) := by decide +kernel
theorem d_MO_take_252 : decode prog_12_method_47_code 252 = .ok (.ifCond .le 8, 3) := by decide +kernel
theorem d_MO_take_255 : decode prog_12_method_47_code 255 = .ok (.iconst (-1), 1) := by decide +kernel
theorem d_MO_take_256 : decode prog_12_method_47_code 256 = .ok (.iload 9, 2) := by decide +kernel
theorem d_MO_take_258 : decode prog_12_method_47_code 258 = .ok (.isub, 1) := by decide +kernel
theorem d_MO_take_259 : decode prog_12_method_47_code 259 = .ok (.ireturn, 1) := by decide +kernel
theorem d_MO_take_260 : decode prog_12_method_47_code 260 = .ok (.aload_n 0, 1) := by decide +kernel
theorem d_MO_take_261 : decode prog_12_method_47_code 261 = .ok (.iload_n 1, 1) := by decide +kernel
theorem d_MO_take_262 : decode prog_12_method_47_code 262 = .ok (.iload 7, 2) := by decide +kernel
theorem d_MO_take_264 : decode prog_12_method_47_code 264 = .ok (.invokevirtual 267, 3) := by decide +kernel
theorem d_MO_take_267 : decode prog_12_method_47_code 267 = .ok (.aload_n 0, 1) := by decide +kernel
theorem d_MO_take_268 : decode prog_12_method_47_code 268 = .ok (.getfield 36, 3) := by decide +kernel
theorem d_MO_take_271 : decode prog_12_method_47_code 271 = .ok (.iload_n 1, 1) := by decide +kernel
theorem d_MO_take_272 : decode prog_12_method_47_code 272 = .ok (.lload_n 3, 1) := by decide +kernel
theorem d_MO_take_273 : decode prog_12_method_47_code 273 = .ok (.lastore, 1) := by decide +kernel
theorem d_MO_take_274 : decode prog_12_method_47_code 274 = .ok (.aload_n 0, 1) := by decide +kernel
theorem d_MO_take_275 : decode prog_12_method_47_code 275 = .ok (.iload_n 1, 1) := by decide +kernel
theorem d_MO_take_276 : decode prog_12_method_47_code 276 = .ok (.iload 6, 2) := by decide +kernel
theorem d_MO_take_278 : decode prog_12_method_47_code 278 = .ok (.invokevirtual 256, 3) := by decide +kernel
theorem d_MO_take_281 : decode prog_12_method_47_code 281 = .ok (.aload_n 0, 1) := by decide +kernel
theorem d_MO_take_282 : decode prog_12_method_47_code 282 = .ok (.getfield 30, 3) := by decide +kernel
theorem d_MO_take_285 : decode prog_12_method_47_code 285 = .ok (.iload_n 1, 1) := by decide +kernel
theorem d_MO_take_286 : decode prog_12_method_47_code 286 = .ok (.iaload, 1) := by decide +kernel
theorem d_MO_take_287 : decode prog_12_method_47_code 287 = .ok (.ireturn, 1) := by decide +kernel
theorem d_MO_copy_0 : decode prog_12_method_48_code 0 = .ok (.iload_n 1, 1) := by decide +kernel
theorem d_MO_copy_1 : decode prog_12_method_48_code 1 = .ok (.invokestatic 187, 3) := by decide +kernel
theorem d_MO_copy_4 : decode prog_12_method_48_code 4 = .ok (.ifCond .eq 27, 3) := by decide +kernel
theorem d_MO_copy_7 : decode prog_12_method_48_code 7 = .ok (.aload_n 0, 1) := by decide +kernel
theorem d_MO_copy_8 : decode prog_12_method_48_code 8 = .ok (.getfield 51, 3) := by decide +kernel
theorem d_MO_copy_11 : decode prog_12_method_48_code 11 = .ok (.iconst 1, 1) := by decide +kernel
theorem d_MO_copy_12 : decode prog_12_method_48_code 12 = .ok (.iload_n 1, 1) := by decide +kernel
theorem d_MO_copy_13 : decode prog_12_method_48_code 13 = .ok (.iadd, 1) := by decide +kernel
theorem d_MO_copy_14 : decode prog_12_method_48_code 14 = .ok (.iaload, 1) := by decide +kernel
theorem d_MO_copy_15 : decode prog_12_method_48_code 15 = .ok (.ifCond .eq 16, 3) := by decide +kernel
theorem d_MO_copy_18 : decode prog_12_method_48_code 18 = .ok (.aload_n 0, 1) := by decide +kernel
theorem d_MO_copy_19 : decode prog_12_method_48_code 19 = .ok (.getfield 51, 3) := by decide +kernel
theorem d_MO_copy_22 : decode prog_12_method_48_code 22 = .ok (.iconst 1, 1) := by decide +kernel
theorem d_MO_copy_23 : decode prog_12_method_48_code 23 = .ok (.iload_n 1, 1) := by decide +kernel
theorem d_MO_copy_24 : decode prog_12_method_48_code 24 = .ok (.iadd, 1) := by decide +kernel
theorem d_MO_copy_25 : decode prog_12_method_48_code 25 = .ok (.iaload, 1) := by decide +kernel
theorem d_MO_copy_26 : decode prog_12_method_48_code 26 = .ok (.bipush 6, 2) := by decide +kernel
theorem d_MO_copy_28 : decode prog_12_method_48_code 28 = .ok (.if_icmp .ne 5, 3) := by decide +kernel
theorem d_MO_copy_31 : decode prog_12_method_48_code 31 = .ok (.iconst 0, 1) := by decide +kernel
theorem d_MO_copy_32 : decode prog_12_method_48_code 32 = .ok (.ireturn, 1) := by decide +kernel
theorem d_MO_copy_33 : decode prog_12_method_48_code 33 = .ok (.aload_n 0, 1) := by decide +kernel
theorem d_MO_copy_34 : decode prog_12_method_48_code 34 = .ok (.iconst 1, 1) := by decide +kernel
theorem d_MO_copy_35 : decode prog_12_method_48_code 35 = .ok (.iload_n 1, 1) := by decide +kernel
theorem d_MO_copy_36 : decode prog_12_method_48_code 36 = .ok (.iadd, 1) := by decide +kernel
theorem d_MO_copy_37 : decode prog_12_method_48_code 37 = .ok (.invokestatic 159, 3) := by decide +kernel
theorem d_MO_copy_40 : decode prog_12_method_48_code 40 = .ok (.invokevirtual 217, 3) := by decide +kernel
theorem d_MO_copy_43 : decode prog_12_method_48_code 43 = .ok (.aload_n 0, 1) := by decide +kernel
theorem d_MO_copy_44 : decode prog_12_method_48_code 44 = .ok (.iconst 1, 1) := by decide +kernel
theorem d_MO_copy_45 : decode prog_12_method_48_code 45 = .ok (.iload_n 1, 1) := by decide +kernel
theorem d_MO_copy_46 : decode prog_12_method_48_code 46 = .ok (.iadd, 1) := by decide +kernel
theorem d_MO_copy_47 : decode prog_12_method_48_code 47 = .ok (.iconst 0, 1) := by decide +kernel
theorem d_MO_copy_48 : decode prog_12_method_48_code 48 = .ok (.invokevirtual 208, 3) := by decide +kernel
theorem d_MO_copy_51 : decode prog_12_method_48_code 51 = .ok (.iconst 1, 1) := by decide +kernel
theorem d_MO_copy_52 : decode prog_12_method_48_code 52 = .ok (.ireturn, 1) := by decide +kernel
end
section
theorem d_MO_swap_0 : decode prog_12_method_49_code 0 = .ok (.iload_n 1, 1) := by decide +kernel
theorem d_MO_swap_1 : decode prog_12_method_49_code 1 = .ok (.invokestatic 187, 3) := by decide +kernel
theorem d_MO_swap_4 : decode prog_12_method_49_code 4 = .ok (.ifCond .eq 15, 3) := by decide +kernel
theorem d_MO_swap_7 : decode prog_12_method_49_code 7 = .ok (.aload_n 0, 1) := by decide +kernel
theorem d_MO_swap_8 : decode prog_12_method_49_code 8 = .ok (.getfield 51, 3) := by decide +kernel
theorem d_MO_swap_11 : decode prog_12_method_49_code 11 = .ok (.iconst 1, 1) := by decide +kernel
theorem d_MO_swap_12 : decode prog_12_method_49_code 12 = .ok (.iload_n 1, 1) := by decide +kernel
theorem d_MO_swap_13 : decode prog_12_method_49_code 13 = .ok (.iadd, 1) := by decide +kernel
theorem d_MO_swap_14 : decode prog_12_method_49_code 14 = .ok (.iaload, 1) := by decide +kernel
theorem d_MO_swap_15 : decode prog_12_method_49_code 15 = .ok (.iconst 2, 1) := by decide +kernel
theorem d_MO_swap_16 : decode prog_12_method_49_code 16 = .ok (.if_icmp .ge 5, 3) := by decide +kernel
theorem d_MO_swap_19 : decode prog_12_method_49_code 19 = .ok (.iconst 0, 1) := by decide +kernel
theorem d_MO_swap_20 : decode prog_12_method_49_code 20 = .ok (.ireturn, 1) := by decide +kernel
theorem d_MO_swap_21 : decode prog_12_method_49_code 21 = .ok (.iconst 1, 1) := by decide +kernel
theorem d_MO_swap_22 : decode prog_12_method_49_code 22 = .ok (.iload_n 1, 1) := by decide +kernel
theorem d_MO_swap_23 : decode prog_12_method_49_code 23 = .ok (.iadd, 1) := by decide +kernel
theorem d_MO_swap_24 : decode prog_12_method_49_code 24 = .ok (.invokestatic 159, 3) := by decide +kernel
theorem d_MO_swap_27 : decode prog_12_method_49_code 27 = .ok (.istore_n 2, 1) := by decide +kernel
theorem d_MO_swap_28 : decode prog_12_method_49_code 28 = .ok (.aload_n 0, 1) := by decide +kernel
theorem d_MO_swap_29 : decode prog_12_method_49_code 29 = .ok (.iload_n 2, 1) := by decide +kernel
theorem d_MO_swap_30 : decode prog_12_method_49_code 30 = .ok (.invokevirtual 217, 3) := by decide +kernel
theorem d_MO_swap_33 : decode prog_12_method_49_code 33 = .ok (.aload_n 0, 1) := by decide +kernel
theorem d_MO_swap_34 : decode prog_12_method_49_code 34 = .ok (.iload_n 2, 1) := by decide +kernel
theorem d_MO_swap_35 : decode prog_12_method_49_code 35 = .ok (.iload_n 2, 1) := by decide +kernel
theorem d_MO_swap_36 : decode prog_12_method_49_code 36 = .ok (.iconst 1, 1) := by decide +kernel
theorem d_MO_swap_37 : decode prog_12_method_49_code 37 = .ok (.iadd, 1) := by decide +kernel
theorem d_MO_swap_38 : decode prog_12_method_49_code 38 = .ok (.invokevirtual 162, 3) := by decide +kernel
theorem d_MO_swap_41 : decode prog_12_method_49_code 41 = .ok (.aload_n 0, 1) := by decide +kernel
theorem d_MO_swap_42 : decode prog_12_method_49_code 42 = .ok (.getfield 51, 3) := by decide +kernel
theorem d_MO_swap_45 : decode prog_12_method_49_code 45 = .ok (.iconst 1, 1) := by decide +kernel
theorem d_MO_swap_46 : decode prog_12_method_49_code 46 = .ok (.iload_n 1, 1) := by decide +kernel
theorem d_MO_swap_47 : decode prog_12_method_49_code 47 = .ok (.iadd, 1) := by decide +kernel
theorem d_MO_swap_48 : decode prog_12_method_49_code 48 = .ok (.iaload, 1) := by decide +kernel
theorem d_MO_swap_49 : decode prog_12_method_49_code 49 = .ok (.istore_n 3, 1) := by decide +kernel
theorem d_MO_swap_50 : decode prog_12_method_49_code 50 = .ok (.aload_n 0, 1) := by decide +kernel
theorem d_MO_swap_51 : decode prog_12_method_49_code 51 = .ok (.getfield 51, 3) := by decide +kernel
theorem d_MO_swap_54 : decode prog_12_method_49_code 54 = .ok (.iconst 1, 1) := by decide +kernel
theorem d_MO_swap_55 : decode prog_12_method_49_code 55 = .ok (.iload_n 1, 1) := by decide +kernel
theorem d_MO_swap_56 : decode prog_12_method_49_code 56 = .ok (.iadd, 1) := by decide +kernel
theorem d_MO_swap_57 : decode prog_12_method_49_code 57 = .ok (.iconst 1, 1) := by decide +kernel
theorem d_MO_swap_58 : decode prog_12_method_49_code 58 = .ok (.iastore, 1) := by decide +kernel
theorem d_MO_swap_59 : decode prog_12_method_49_code 59 = .ok (.aload_n 0, 1) := by decide +kernel
theorem d_MO_swap_60 : decode prog_12_method_49_code 60 = .ok (.iconst 1, 1) := by decide +kernel
theorem d_MO_swap_61 : decode prog_12_method_49_code 61 = .ok (.iload_n 1, 1) := by decide +kernel
theorem d_MO_swap_62 : decode prog_12_method_49_code 62 = .ok (.iadd, 1) := by decide +kernel
theorem d_MO_swap_63 : decode prog_12_method_49_code 63 = .ok (.iconst 0, 1) := by decide +kernel
theorem d_MO_swap_64 : decode prog_12_method_49_code 64 = .ok (.invokevirtual 208, 3) := by decide +kernel
theorem d_MO_swap_67 : decode prog_12_method_49_code 67 = .ok (.aload_n 0, 1) := by decide +kernel
theorem d_MO_swap_68 : decode prog_12_method_49_code 68 = .ok (.getfield 51, 3) := by decide +kernel
theorem d_MO_swap_71 : decode prog_12_method_49_code 71 = .ok (.iconst 1, 1) := by decide +kernel
theorem d_MO_swap_72 : decode prog_12_method_49_code 72 = .ok (.iload_n 1, 1) := by decide +kernel
theorem d_MO_swap_73 : decode prog_12_method_49_code 73 = .ok (.iadd, 1) := by decide +kernel
theorem d_MO_swap_74 : decode prog_12_method_49_code 74 = .ok (.iload_n 3, 1) := by decide +kernel
theorem d_MO_swap_75 : decode prog_12_method_49_code 75 = .ok (.iastore, 1) := by decide +kernel
theorem d_MO_swap_76 : decode prog_12_method_49_code 76 = .ok (.iconst 1, 1) := by decide +kernel
theorem d_MO_swap_77 : decode prog_12_method_49_code 77 = .ok (.ireturn, 1) := by decide +kernel
theorem d_MO_report_0 : decode prog_12_method_50_code 0 = .ok (.iload_n 1, 1) := by decide +kernel
theorem d_MO_report_1 : decode prog_12_method_50_code 1 = .ok (.invokestatic 187, 3) := by decide +kernel
theorem d_MO_report_4 : decode prog_12_method_50_code 4 = .ok (.ifCond .ne 5, 3) := by decide +kernel
theorem d_MO_report_7 : decode prog_12_method_50_code 7 = .ok (.iconst (-1), 1) := by decide +kernel
theorem d_MO_report_8 : decode prog_12_method_50_code 8 = .ok (.ireturn, 1) := by decide +kernel
theorem d_MO_report_9 : decode prog_12_method_50_code 9 = .ok (.aload_n 0, 1) := by decide +kernel
theorem d_MO_report_10 : decode prog_12_method_50_code 10 = .ok (.getfield 51, 3) := by decide +kernel
theorem d_MO_report_13 : decode prog_12_method_50_code 13 = .ok (.iconst 5, 1) := by decide +kernel
theorem d_MO_report_14 : decode prog_12_method_50_code 14 = .ok (.iload_n 1, 1) := by decide +kernel
theorem d_MO_report_15 : decode prog_12_method_50_code 15 = .ok (.iadd, 1) := by decide +kernel
theorem d_MO_report_16 : decode prog_12_method_50_code 16 = .ok (.iaload, 1) := by decide +kernel
theorem d_MO_report_17 : decode prog_12_method_50_code 17 = .ok (.ifCond .ne 6, 3) := by decide +kernel
theorem d_MO_report_20 : decode prog_12_method_50_code 20 = .ok (.bipush (-2), 2) := by decide +kernel
theorem d_MO_report_22 : decode prog_12_method_50_code 22 = .ok (.ireturn, 1) := by decide +kernel
theorem d_MO_report_23 : decode prog_12_method_50_code 23 = .ok (.aload_n 0, 1) := by decide +kernel
theorem d_MO_report_24 : decode prog_12_method_50_code 24 = .ok (.iconst 5, 1) := by decide +kernel
theorem d_MO_report_25 : decode prog_12_method_50_code 25 = .ok (.iload_n 1, 1) := by decide +kernel
theorem d_MO_report_26 : decode prog_12_method_50_code 26 = .ok (.iadd, 1) := by decide +kernel
theorem d_MO_report_27 : decode prog_12_method_50_code 27 = .ok (.invokestatic 159, 3) := by decide +kernel
theorem d_MO_report_30 : decode prog_12_method_50_code 30 = .ok (.invokevirtual 217, 3) := by decide +kernel
theorem d_MO_report_33 : decode prog_12_method_50_code 33 = .ok (.aload_n 0, 1) := by decide +kernel
theorem d_MO_report_34 : decode prog_12_method_50_code 34 = .ok (.iconst 5, 1) := by decide +kernel
theorem d_MO_report_35 : decode prog_12_method_50_code 35 = .ok (.iload_n 1, 1) := by decide +kernel
theorem d_MO_report_36 : decode prog_12_method_50_code 36 = .ok (.iadd, 1) := by decide +kernel
theorem d_MO_report_37 : decode prog_12_method_50_code 37 = .ok (.invokevirtual 223, 3) := by decide +kernel
theorem d_MO_report_40 : decode prog_12_method_50_code 40 = .ok (.sipush 256, 3) := by decide +kernel
theorem d_MO_report_43 : decode prog_12_method_50_code 43 = .ok (.aload_n 0, 1) := by decide +kernel
theorem d_MO_report_44 : decode prog_12_method_50_code 44 = .ok (.getfield 39, 3) := by decide +kernel
theorem d_MO_report_47 : decode prog_12_method_50_code 47 = .ok (.aload_n 0, 1) := by decide +kernel
theorem d_MO_report_48 : decode prog_12_method_50_code 48 = .ok (.getfield 131, 3) := by decide +kernel
theorem d_MO_report_51 : decode prog_12_method_50_code 51 = .ok (.iconst 1, 1) := by decide +kernel
theorem d_MO_report_52 : decode prog_12_method_50_code 52 = .ok (.isub, 1) := by decide +kernel
theorem d_MO_report_53 : decode prog_12_method_50_code 53 = .ok (.iaload, 1) := by decide +kernel
theorem d_MO_report_54 : decode prog_12_method_50_code 54 = .ok (.imul, 1) := by decide +kernel
theorem d_MO_report_55 : decode prog_12_method_50_code 55 = .ok (.aload_n 0, 1) := by decide +kernel
theorem d_MO_report_56 : decode prog_12_method_50_code 56 = .ok (.getfield 39, 3) := by decide +kernel
theorem d_MO_report_59 : decode prog_12_method_50_code 59 = .ok (.iconst 1, 1) := by decide +kernel
theorem d_MO_report_60 : decode prog_12_method_50_code 60 = .ok (.iaload, 1) := by decide +kernel
theorem d_MO_report_61 : decode prog_12_method_50_code 61 = .ok (.iadd, 1) := by decide +kernel
theorem d_MO_report_62 : decode prog_12_method_50_code 62 = .ok (.ireturn, 1) := by decide +kernel
theorem d_MO_waiting_0 : decode prog_12_method_51_code 0 = .ok (.iload_n 1, 1) := by decide +kernel
theorem d_MO_waiting_1 : decode prog_12_method_51_code 1 = .ok (.iconst (-1), 1) := by decide +kernel
theorem d_MO_waiting_2 : decode prog_12_method_51_code 2 = .ok (.if_icmp .lt 9, 3) := by decide +kernel
theorem d_MO_waiting_5 : decode prog_12_method_51_code 5 = .ok (.iload_n 1, 1) := by decide +kernel
theorem d_MO_waiting_6 : decode prog_12_method_51_code 6 = .ok (.bipush 7, 2) := by decide +kernel
theorem d_MO_waiting_8 : decode prog_12_method_51_code 8 = .ok (.if_icmp .le 7, 3) := by decide +kernel
theorem d_MO_waiting_11 : decode prog_12_method_51_code 11 = .ok (.iconst (-1), 1) := by decide +kernel
theorem d_MO_waiting_12 : decode prog_12_method_51_code 12 = .ok (.goto 11, 3) := by decide +kernel
theorem d_MO_waiting_15 : decode prog_12_method_51_code 15 = .ok (.aload_n 0, 1) := by decide +kernel
theorem d_MO_waiting_16 : decode prog_12_method_51_code 16 = .ok (.getfield 51, 3) := by decide +kernel
theorem d_MO_waiting_19 : decode prog_12_method_51_code 19 = .ok (.iload_n 1, 1) := by decide +kernel
theorem d_MO_waiting_20 : decode prog_12_method_51_code 20 = .ok (.iconst 1, 1) := by decide +kernel
theorem d_MO_waiting_21 : decode prog_12_method_51_code 21 = .ok (.iadd, 1) := by decide +kernel
theorem d_MO_waiting_22 : decode prog_12_method_51_code 22 = .ok (.iaload, 1) := by decide +kernel
theorem d_MO_waiting_23 : decode prog_12_method_51_code 23 = .ok (.ireturn, 1) := by decide +kernel
theorem d_MO_byteAt_0 : decode prog_12_method_52_code 0 = .ok (.iload_n 1, 1) := by decide +kernel
theorem d_MO_byteAt_1 : decode prog_12_method_52_code 1 = .ok (.iconst (-1), 1) := by decide +kernel
theorem d_MO_byteAt_2 : decode prog_12_method_52_code 2 = .ok (.if_icmp .lt 20, 3) := by decide +kernel
theorem d_MO_byteAt_5 : decode prog_12_method_52_code 5 = .ok (.iload_n 1, 1) := by decide +kernel
theorem d_MO_byteAt_6 : decode prog_12_method_52_code 6 = .ok (.bipush 7, 2) := by decide +kernel
theorem d_MO_byteAt_8 : decode prog_12_method_52_code 8 = .ok (.if_icmp .gt 14, 3) := by decide +kernel
theorem d_MO_byteAt_11 : decode prog_12_method_52_code 11 = .ok (.aload_n 0, 1) := by decide +kernel
theorem d_MO_byteAt_12 : decode prog_12_method_52_code 12 = .ok (.getfield 51, 3) := by decide +kernel
theorem d_MO_byteAt_15 : decode prog_12_method_52_code 15 = .ok (.iload_n 1, 1) := by decide +kernel
theorem d_MO_byteAt_16 : decode prog_12_method_52_code 16 = .ok (.iconst 1, 1) := by decide +kernel
theorem d_MO_byteAt_17 : decode prog_12_method_52_code 17 = .ok (.iadd, 1) := by decide +kernel
theorem d_MO_byteAt_18 : decode prog_12_method_52_code 18 = .ok (.iaload, 1) := by decide +kernel
theorem d_MO_byteAt_19 : decode prog_12_method_52_code 19 = .ok (.ifCond .ne 6, 3) := by decide +kernel
theorem d_MO_byteAt_22 : decode prog_12_method_52_code 22 = .ok (.bipush (-2), 2) := by decide +kernel
theorem d_MO_byteAt_24 : decode prog_12_method_52_code 24 = .ok (.ireturn, 1) := by decide +kernel
theorem d_MO_byteAt_25 : decode prog_12_method_52_code 25 = .ok (.iload_n 1, 1) := by decide +kernel
theorem d_MO_byteAt_26 : decode prog_12_method_52_code 26 = .ok (.iconst 1, 1) := by decide +kernel
theorem d_MO_byteAt_27 : decode prog_12_method_52_code 27 = .ok (.iadd, 1) := by decide +kernel
theorem d_MO_byteAt_28 : decode prog_12_method_52_code 28 = .ok (.invokestatic 159, 3) := by decide +kernel
theorem d_MO_byteAt_31 : decode prog_12_method_52_code 31 = .ok (.istore_n 3, 1) := by decide +kernel
theorem d_MO_byteAt_32 : decode prog_12_method_52_code 32 = .ok (.iload_n 2, 1) := by decide +kernel
theorem d_MO_byteAt_33 : decode prog_12_method_52_code 33 = .ok (.ifCond .lt 13, 3) := by decide +kernel
theorem d_MO_byteAt_36 : decode prog_12_method_52_code 36 = .ok (.iload_n 2, 1) := by decide +kernel
theorem d_MO_byteAt_37 : decode prog_12_method_52_code 37 = .ok (.aload_n 0, 1) := by decide +kernel
theorem d_MO_byteAt_38 : decode prog_12_method_52_code 38 = .ok (.getfield 45, 3) := by decide +kernel
theorem d_MO_byteAt_41 : decode prog_12_method_52_code 41 = .ok (.iload_n 3, 1) := by decide +kernel
theorem d_MO_byteAt_42 : decode prog_12_method_52_code 42 = .ok (.iaload, 1) := by decide +kernel
theorem d_MO_byteAt_43 : decode prog_12_method_52_code 43 = .ok (.if_icmp .lt 8, 3) := by decide +kernel
theorem d_MO_byteAt_46 : decode prog_12_method_52_code 46 = .ok (.bipush (-2), 2) := by decide +kernel
theorem d_MO_byteAt_48 : decode prog_12_method_52_code 48 = .ok (.goto 15, 3) := by decide +kernel
theorem d_MO_byteAt_51 : decode prog_12_method_52_code 51 = .ok (.aload_n 0, 1) := by decide +kernel
theorem d_MO_byteAt_52 : decode prog_12_method_52_code 52 = .ok (.getfield 42, 3) := by decide +kernel
theorem d_MO_byteAt_55 : decode prog_12_method_52_code 55 = .ok (.sipush 160, 3) := by decide +kernel
theorem d_MO_byteAt_58 : decode prog_12_method_52_code 58 = .ok (.iload_n 3, 1) := by decide +kernel
theorem d_MO_byteAt_59 : decode prog_12_method_52_code 59 = .ok (.imul, 1) := by decide +kernel
theorem d_MO_byteAt_60 : decode prog_12_method_52_code 60 = .ok (.iload_n 2, 1) := by decide +kernel
theorem d_MO_byteAt_61 : decode prog_12_method_52_code 61 = .ok (.iadd, 1) := by decide +kernel
theorem d_MO_byteAt_62 : decode prog_12_method_52_code 62 = .ok (.iaload, 1) := by decide +kernel
theorem d_MO_byteAt_63 : decode prog_12_method_52_code 63 = .ok (.ireturn, 1) := by decide +kernel
theorem d_MO_text_0 : decode prog_12_method_53_code 0 = .ok (.iload_n 1, 1) := by decide +kernel
theorem d_MO_text_1 : decode prog_12_method_53_code 1 = .ok (.invokestatic 187, 3) := by decide +kernel
theorem d_MO_text_4 : decode prog_12_method_53_code 4 = .ok (.ifCond .eq 17, 3) := by decide +kernel
theorem d_MO_text_7 : decode prog_12_method_53_code 7 = .ok (.iload_n 2, 1) := by decide +kernel
theorem d_MO_text_8 : decode prog_12_method_53_code 8 = .ok (.ifCond .lt 13, 3) := by decide +kernel
theorem d_MO_text_11 : decode prog_12_method_53_code 11 = .ok (.iload_n 2, 1) := by decide +kernel
theorem d_MO_text_12 : decode prog_12_method_53_code 12 = .ok (.aload_n 0, 1) := by decide +kernel
theorem d_MO_text_13 : decode prog_12_method_53_code 13 = .ok (.getfield 30, 3) := by decide +kernel
theorem d_MO_text_16 : decode prog_12_method_53_code 16 = .ok (.iload_n 1, 1) := by decide +kernel
theorem d_MO_text_17 : decode prog_12_method_53_code 17 = .ok (.iaload, 1) := by decide +kernel
theorem d_MO_text_18 : decode prog_12_method_53_code 18 = .ok (.if_icmp .lt 8, 3) := by decide +kernel
theorem d_MO_text_21 : decode prog_12_method_53_code 21 = .ok (.bipush (-2), 2) := by decide +kernel
theorem d_MO_text_23 : decode prog_12_method_53_code 23 = .ok (.goto 15, 3) := by decide +kernel
theorem d_MO_text_26 : decode prog_12_method_53_code 26 = .ok (.aload_n 0, 1) := by decide +kernel
theorem d_MO_text_27 : decode prog_12_method_53_code 27 = .ok (.getfield 33, 3) := by decide +kernel
theorem d_MO_text_30 : decode prog_12_method_53_code 30 = .ok (.sipush 480, 3) := by decide +kernel
theorem d_MO_text_33 : decode prog_12_method_53_code 33 = .ok (.iload_n 1, 1) := by decide +kernel
theorem d_MO_text_34 : decode prog_12_method_53_code 34 = .ok (.imul, 1) := by decide +kernel
theorem d_MO_text_35 : decode prog_12_method_53_code 35 = .ok (.iload_n 2, 1) := by decide +kernel
theorem d_MO_text_36 : decode prog_12_method_53_code 36 = .ok (.iadd, 1) := by decide +kernel
theorem d_MO_text_37 : decode prog_12_method_53_code 37 = .ok (.iaload, 1) := by decide +kernel
theorem d_MO_text_38 : decode prog_12_method_53_code 38 = .ok (.ireturn, 1) := by decide +kernel
theorem d_MO_sender_0 : decode prog_12_method_54_code 0 = .ok (.iload_n 1, 1) := by decide +kernel
theorem d_MO_sender_1 : decode prog_12_method_54_code 1 = .ok (.invokestatic 187, 3) := by decide +kernel
theorem d_MO_sender_4 : decode prog_12_method_54_code 4 = .ok (.ifCond .eq 12, 3) := by decide +kernel
theorem d_MO_sender_7 : decode prog_12_method_54_code 7 = .ok (.aload_n 0, 1) := by decide +kernel
theorem d_MO_sender_8 : decode prog_12_method_54_code 8 = .ok (.getfield 36, 3) := by decide +kernel
theorem d_MO_sender_11 : decode prog_12_method_54_code 11 = .ok (.iload_n 1, 1) := by decide +kernel
theorem d_MO_sender_12 : decode prog_12_method_54_code 12 = .ok (.laload, 1) := by decide +kernel
theorem d_MO_sender_13 : decode prog_12_method_54_code 13 = .ok (.goto 4, 3) := by decide +kernel
theorem d_MO_sender_16 : decode prog_12_method_54_code 16 = .ok (.lconst 0, 1) := by decide +kernel
theorem d_MO_sender_17 : decode prog_12_method_54_code 17 = .ok (.lreturn, 1) := by decide +kernel
theorem d_MO_state_0 : decode prog_12_method_55_code 0 = .ok (.iload_n 1, 1) := by decide +kernel
theorem d_MO_state_1 : decode prog_12_method_55_code 1 = .ok (.ifCond .lt 11, 3) := by decide +kernel
theorem d_MO_state_4 : decode prog_12_method_55_code 4 = .ok (.iload_n 1, 1) := by decide +kernel
theorem d_MO_state_5 : decode prog_12_method_55_code 5 = .ok (.aload_n 0, 1) := by decide +kernel
theorem d_MO_state_6 : decode prog_12_method_55_code 6 = .ok (.getfield 214, 3) := by decide +kernel
theorem d_MO_state_9 : decode prog_12_method_55_code 9 = .ok (.if_icmp .lt 8, 3) := by decide +kernel
theorem d_MO_state_12 : decode prog_12_method_55_code 12 = .ok (.bipush (-2), 2) := by decide +kernel
theorem d_MO_state_14 : decode prog_12_method_55_code 14 = .ok (.goto 9, 3) := by decide +kernel
theorem d_MO_state_17 : decode prog_12_method_55_code 17 = .ok (.aload_n 0, 1) := by decide +kernel
theorem d_MO_state_18 : decode prog_12_method_55_code 18 = .ok (.getfield 84, 3) := by decide +kernel
theorem d_MO_state_21 : decode prog_12_method_55_code 21 = .ok (.iload_n 1, 1) := by decide +kernel
theorem d_MO_state_22 : decode prog_12_method_55_code 22 = .ok (.iaload, 1) := by decide +kernel
theorem d_MO_state_23 : decode prog_12_method_55_code 23 = .ok (.ireturn, 1) := by decide +kernel
theorem d_MO_offers_0 : decode prog_12_method_56_code 0 = .ok (.iload_n 1, 1) := by decide +kernel
theorem d_MO_offers_1 : decode prog_12_method_56_code 1 = .ok (.ifCond .lt 11, 3) := by decide +kernel
theorem d_MO_offers_4 : decode prog_12_method_56_code 4 = .ok (.iload_n 1, 1) := by decide +kernel
theorem d_MO_offers_5 : decode prog_12_method_56_code 5 = .ok (.aload_n 0, 1) := by decide +kernel
theorem d_MO_offers_6 : decode prog_12_method_56_code 6 = .ok (.getfield 214, 3) := by decide +kernel
theorem d_MO_offers_9 : decode prog_12_method_56_code 9 = .ok (.if_icmp .lt 8, 3) := by decide +kernel
theorem d_MO_offers_12 : decode prog_12_method_56_code 12 = .ok (.bipush (-2), 2) := by decide +kernel
theorem d_MO_offers_14 : decode prog_12_method_56_code 14 = .ok (.goto 9, 3) := by decide +kernel
theorem d_MO_offers_17 : decode prog_12_method_56_code 17 = .ok (.aload_n 0, 1) := by decide +kernel
theorem d_MO_offers_18 : decode prog_12_method_56_code 18 = .ok (.getfield 81, 3) := by decide +kernel
theorem d_MO_offers_21 : decode prog_12_method_56_code 21 = .ok (.iload_n 1, 1) := by decide +kernel
theorem d_MO_offers_22 : decode prog_12_method_56_code 22 = .ok (.iaload, 1) := by decide +kernel
theorem d_MO_offers_23 : decode prog_12_method_56_code 23 = .ok (.ireturn, 1) := by decide +kernel
theorem d_MO_time_0 : decode prog_12_method_57_code 0 = .ok (.aload_n 0, 1) := by decide +kernel
theorem d_MO_time_1 : decode prog_12_method_57_code 1 = .ok (.getfield 226, 3) := by decide +kernel
theorem d_MO_time_4 : decode prog_12_method_57_code 4 = .ok (.ireturn, 1) := by decide +kernel
theorem d_Al_formOf_0 : decode prog_2_method_2_code 0 = .ok (.iconst 0, 1) := by decide +kernel
theorem d_Al_formOf_1 : decode prog_2_method_2_code 1 = .ok (.istore_n 1, 1) := by decide +kernel
theorem d_Al_formOf_2 : decode prog_2_method_2_code 2 = .ok (.iload_n 1, 1) := by decide +kernel
theorem d_Al_formOf_3 : decode prog_2_method_2_code 3 = .ok (.getstatic 7, 3) := by decide +kernel
theorem d_Al_formOf_6 : decode prog_2_method_2_code 6 = .ok (.arraylength, 1) := by decide +kernel
theorem d_Al_formOf_7 : decode prog_2_method_2_code 7 = .ok (.if_icmp .ge 20, 3) := by decide +kernel
theorem d_Al_formOf_10 : decode prog_2_method_2_code 10 = .ok (.getstatic 7, 3) := by decide +kernel
theorem d_Al_formOf_13 : decode prog_2_method_2_code 13 = .ok (.iload_n 1, 1) := by decide +kernel
theorem d_Al_formOf_14 : decode prog_2_method_2_code 14 = .ok (.iaload, 1) := by decide +kernel
theorem d_Al_formOf_15 : decode prog_2_method_2_code 15 = .ok (.iload_n 0, 1) := by decide +kernel
theorem d_Al_formOf_16 : decode prog_2_method_2_code 16 = .ok (.if_icmp .ne 5, 3) := by decide +kernel
theorem d_Al_formOf_19 : decode prog_2_method_2_code 19 = .ok (.iload_n 1, 1) := by decide +kernel
theorem d_Al_formOf_20 : decode prog_2_method_2_code 20 = .ok (.ireturn, 1) := by decide +kernel
theorem d_Al_formOf_21 : decode prog_2_method_2_code 21 = .ok (.iinc 1 1, 3) := by decide +kernel
theorem d_Al_formOf_24 : decode prog_2_method_2_code 24 = .ok (.goto (-22), 3) := by decide +kernel
theorem d_Al_formOf_27 : decode prog_2_method_2_code 27 = .ok (.iconst 0, 1) := by decide +kernel
theorem d_Al_formOf_28 : decode prog_2_method_2_code 28 = .ok (.istore_n 1, 1) := by decide +kernel
theorem d_Al_formOf_29 : decode prog_2_method_2_code 29 = .ok (.iload_n 1, 1) := by decide +kernel
theorem d_Al_formOf_30 : decode prog_2_method_2_code 30 = .ok (.getstatic 13, 3) := by decide +kernel
theorem d_Al_formOf_33 : decode prog_2_method_2_code 33 = .ok (.arraylength, 1) := by decide +kernel
theorem d_Al_formOf_34 : decode prog_2_method_2_code 34 = .ok (.if_icmp .ge 28, 3) := by decide +kernel
theorem d_Al_formOf_37 : decode prog_2_method_2_code 37 = .ok (.getstatic 16, 3) := by decide +kernel
theorem d_Al_formOf_40 : decode prog_2_method_2_code 40 = .ok (.iload_n 1, 1) := by decide +kernel
theorem d_Al_formOf_41 : decode prog_2_method_2_code 41 = .ok (.iaload, 1) := by decide +kernel
theorem d_Al_formOf_42 : decode prog_2_method_2_code 42 = .ok (.iload_n 0, 1) := by decide +kernel
theorem d_Al_formOf_43 : decode prog_2_method_2_code 43 = .ok (.if_icmp .ne 13, 3) := by decide +kernel
theorem d_Al_formOf_46 : decode prog_2_method_2_code 46 = .ok (.sipush 128, 3) := by decide +kernel
theorem d_Al_formOf_49 : decode prog_2_method_2_code 49 = .ok (.getstatic 13, 3) := by decide +kernel
theorem d_Al_formOf_52 : decode prog_2_method_2_code 52 = .ok (.iload_n 1, 1) := by decide +kernel
theorem d_Al_formOf_53 : decode prog_2_method_2_code 53 = .ok (.iaload, 1) := by decide +kernel
theorem d_Al_formOf_54 : decode prog_2_method_2_code 54 = .ok (.iadd, 1) := by decide +kernel
theorem d_Al_formOf_55 : decode prog_2_method_2_code 55 = .ok (.ireturn, 1) := by decide +kernel
theorem d_Al_formOf_56 : decode prog_2_method_2_code 56 = .ok (.iinc 1 1, 3) := by decide +kernel
theorem d_Al_formOf_59 : decode prog_2_method_2_code 59 = .ok (.goto (-30), 3) := by decide +kernel
theorem d_Al_formOf_62 : decode prog_2_method_2_code 62 = .ok (.iconst (-1), 1) := by decide +kernel
theorem d_Al_formOf_63 : decode prog_2_method_2_code 63 = .ok (.ireturn, 1) := by decide +kernel
theorem d_Al_septetsOf_0 : decode prog_2_method_3_code 0 = .ok (.iload_n 0, 1) := by decide +kernel
theorem d_Al_septetsOf_1 : decode prog_2_method_3_code 1 = .ok (.sipush 128, 3) := by decide +kernel
theorem d_Al_septetsOf_4 : decode prog_2_method_3_code 4 = .ok (.if_icmp .lt 7, 3) := by decide +kernel
theorem d_Al_septetsOf_7 : decode prog_2_method_3_code 7 = .ok (.iconst 2, 1) := by decide +kernel
theorem d_Al_septetsOf_8 : decode prog_2_method_3_code 8 = .ok (.goto 4, 3) := by decide +kernel
theorem d_Al_septetsOf_11 : decode prog_2_method_3_code 11 = .ok (.iconst 1, 1) := by decide +kernel
theorem d_Al_septetsOf_12 : decode prog_2_method_3_code 12 = .ok (.ireturn, 1) := by decide +kernel
theorem d_Al_plain_0 : decode prog_2_method_4_code 0 = .ok (.iload_n 0, 1) := by decide +kernel
theorem d_Al_plain_1 : decode prog_2_method_4_code 1 = .ok (.ifCond .lt 11, 3) := by decide +kernel
theorem d_Al_plain_4 : decode prog_2_method_4_code 4 = .ok (.iload_n 0, 1) := by decide +kernel
theorem d_Al_plain_5 : decode prog_2_method_4_code 5 = .ok (.getstatic 7, 3) := by decide +kernel
theorem d_Al_plain_8 : decode prog_2_method_4_code 8 = .ok (.arraylength, 1) := by decide +kernel
theorem d_Al_plain_9 : decode prog_2_method_4_code 9 = .ok (.if_icmp .lt 7, 3) := by decide +kernel
theorem d_Al_plain_12 : decode prog_2_method_4_code 12 = .ok (.iconst (-1), 1) := by decide +kernel
theorem d_Al_plain_13 : decode prog_2_method_4_code 13 = .ok (.goto 8, 3) := by decide +kernel
theorem d_Al_plain_16 : decode prog_2_method_4_code 16 = .ok (.getstatic 7, 3) := by decide +kernel
theorem d_Al_plain_19 : decode prog_2_method_4_code 19 = .ok (.iload_n 0, 1) := by decide +kernel
theorem d_Al_plain_20 : decode prog_2_method_4_code 20 = .ok (.iaload, 1) := by decide +kernel
theorem d_Al_plain_21 : decode prog_2_method_4_code 21 = .ok (.ireturn, 1) := by decide +kernel
theorem d_Al_second_0 : decode prog_2_method_5_code 0 = .ok (.iconst 0, 1) := by decide +kernel
theorem d_Al_second_1 : decode prog_2_method_5_code 1 = .ok (.istore_n 1, 1) := by decide +kernel
theorem d_Al_second_2 : decode prog_2_method_5_code 2 = .ok (.iload_n 1, 1) := by decide +kernel
theorem d_Al_second_3 : decode prog_2_method_5_code 3 = .ok (.getstatic 13, 3) := by decide +kernel
theorem d_Al_second_6 : decode prog_2_method_5_code 6 = .ok (.arraylength, 1) := by decide +kernel
theorem d_Al_second_7 : decode prog_2_method_5_code 7 = .ok (.if_icmp .ge 24, 3) := by decide +kernel
theorem d_Al_second_10 : decode prog_2_method_5_code 10 = .ok (.getstatic 13, 3) := by decide +kernel
theorem d_Al_second_13 : decode prog_2_method_5_code 13 = .ok (.iload_n 1, 1) := by decide +kernel
theorem d_Al_second_14 : decode prog_2_method_5_code 14 = .ok (.iaload, 1) := by decide +kernel
theorem d_Al_second_15 : decode prog_2_method_5_code 15 = .ok (.iload_n 0, 1) := by decide +kernel
theorem d_Al_second_16 : decode prog_2_method_5_code 16 = .ok (.if_icmp .ne 9, 3) := by decide +kernel
theorem d_Al_second_19 : decode prog_2_method_5_code 19 = .ok (.getstatic 16, 3) := by decide +kernel
theorem d_Al_second_22 : decode prog_2_method_5_code 22 = .ok (.iload_n 1, 1) := by decide +kernel
theorem d_Al_second_23 : decode prog_2_method_5_code 23 = .ok (.iaload, 1) := by decide +kernel
theorem d_Al_second_24 : decode prog_2_method_5_code 24 = .ok (.ireturn, 1) := by decide +kernel
theorem d_Al_second_25 : decode prog_2_method_5_code 25 = .ok (.iinc 1 1, 3) := by decide +kernel
theorem d_Al_second_28 : decode prog_2_method_5_code 28 = .ok (.goto (-26), 3) := by decide +kernel
theorem d_Al_second_31 : decode prog_2_method_5_code 31 = .ok (.iconst (-1), 1) := by decide +kernel
theorem d_Al_second_32 : decode prog_2_method_5_code 32 = .ok (.ireturn, 1) := by decide +kernel
theorem d_De_init_0 : decode prog_3_method_1_code 0 = .ok (.aload_n 0, 1) := by decide +kernel
theorem d_De_init_1 : decode prog_3_method_1_code 1 = .ok (.invokespecial 1, 3) := by decide +kernel
theorem d_De_init_4 : decode prog_3_method_1_code 4 = .ok (.aload_n 0, 1) := by decide +kernel
theorem d_De_init_5 : decode prog_3_method_1_code 5 = .ok (.new 7, 3) := by decide +kernel
theorem d_De_init_8 : decode prog_3_method_1_code 8 = .ok (.dup, 1) := by decide +kernel
theorem d_De_init_9 : decode prog_3_method_1_code 9 = .ok (.bipush 6, 2) := by decide +kernel
theorem d_De_init_11 : decode prog_3_method_1_code 11 = .ok (.invokespecial 11, 3) := by decide +kernel
theorem d_De_init_14 : decode prog_3_method_1_code 14 = .ok (.putfield 14, 3) := by decide +kernel
theorem d_De_init_17 : decode prog_3_method_1_code 17 = .ok (.aload_n 0, 1) := by decide +kernel
theorem d_De_init_18 : decode prog_3_method_1_code 18 = .ok (.new 7, 3) := by decide +kernel
theorem d_De_init_21 : decode prog_3_method_1_code 21 = .ok (.dup, 1) := by decide +kernel
theorem d_De_init_22 : decode prog_3_method_1_code 22 = .ok (.bipush 6, 2) := by decide +kernel
theorem d_De_init_24 : decode prog_3_method_1_code 24 = .ok (.invokespecial 11, 3) := by decide +kernel
theorem d_De_init_27 : decode prog_3_method_1_code 27 = .ok (.putfield 18, 3) := by decide +kernel
theorem d_De_init_30 : decode prog_3_method_1_code 30 = .ok (.aload_n 0, 1) := by decide +kernel
theorem d_De_init_31 : decode prog_3_method_1_code 31 = .ok (.new 21, 3) := by decide +kernel
theorem d_De_init_34 : decode prog_3_method_1_code 34 = .ok (.dup, 1) := by decide +kernel
theorem d_De_init_35 : decode prog_3_method_1_code 35 = .ok (.invokespecial 23, 3) := by decide +kernel
theorem d_De_init_38 : decode prog_3_method_1_code 38 = .ok (.putfield 24, 3) := by decide +kernel
theorem d_De_init_41 : decode prog_3_method_1_code 41 = .ok (.aload_n 0, 1) := by decide +kernel
theorem d_De_init_42 : decode prog_3_method_1_code 42 = .ok (.sipush 480, 3) := by decide +kernel
theorem d_De_init_45 : decode prog_3_method_1_code 45 = .ok (.newarray .int, 2) := by decide +kernel
theorem d_De_init_47 : decode prog_3_method_1_code 47 = .ok (.putfield 28, 3) := by decide +kernel
theorem d_De_init_50 : decode prog_3_method_1_code 50 = .ok (.return_, 1) := by decide +kernel
theorem d_De_nextMessageNumber_0 : decode prog_3_method_2_code 0 = .ok (.aload_n 0, 1) := by decide +kernel
theorem d_De_nextMessageNumber_1 : decode prog_3_method_2_code 1 = .ok (.getfield 32, 3) := by decide +kernel
theorem d_De_nextMessageNumber_4 : decode prog_3_method_2_code 4 = .ok (.istore_n 1, 1) := by decide +kernel
theorem d_De_nextMessageNumber_5 : decode prog_3_method_2_code 5 = .ok (.aload_n 0, 1) := by decide +kernel
theorem d_De_nextMessageNumber_6 : decode prog_3_method_2_code 6 = .ok (.aload_n 0, 1) := by decide +kernel
theorem d_De_nextMessageNumber_7 : decode prog_3_method_2_code 7 = .ok (.getfield 32, 3) := by decide +kernel
theorem d_De_nextMessageNumber_10 : decode prog_3_method_2_code 10 = .ok (.iconst 1, 1) := by decide +kernel
theorem d_De_nextMessageNumber_11 : decode prog_3_method_2_code 11 = .ok (.iadd, 1) := by decide +kernel
theorem d_De_nextMessageNumber_12 : decode prog_3_method_2_code 12 = .ok (.sipush 256, 3) := by decide +kernel
theorem d_De_nextMessageNumber_15 : decode prog_3_method_2_code 15 = .ok (.irem, 1) := by decide +kernel
theorem d_De_nextMessageNumber_16 : decode prog_3_method_2_code 16 = .ok (.putfield 32, 3) := by decide +kernel
theorem d_De_nextMessageNumber_19 : decode prog_3_method_2_code 19 = .ok (.iload_n 1, 1) := by decide +kernel
theorem d_De_nextMessageNumber_20 : decode prog_3_method_2_code 20 = .ok (.ireturn, 1) := by decide +kernel
theorem d_De_countReference_0 : decode prog_3_method_3_code 0 = .ok (.aload_n 0, 1) := by decide +kernel
theorem d_De_countReference_1 : decode prog_3_method_3_code 1 = .ok (.aload_n 0, 1) := by decide +kernel
theorem d_De_countReference_2 : decode prog_3_method_3_code 2 = .ok (.getfield 36, 3) := by decide +kernel
theorem d_De_countReference_5 : decode prog_3_method_3_code 5 = .ok (.iconst 1, 1) := by decide +kernel
theorem d_De_countReference_6 : decode prog_3_method_3_code 6 = .ok (.iadd, 1) := by decide +kernel
theorem d_De_countReference_7 : decode prog_3_method_3_code 7 = .ok (.sipush 256, 3) := by decide +kernel
theorem d_De_countReference_10 : decode prog_3_method_3_code 10 = .ok (.irem, 1) := by decide +kernel
theorem d_De_countReference_11 : decode prog_3_method_3_code 11 = .ok (.putfield 36, 3) := by decide +kernel
theorem d_De_countReference_14 : decode prog_3_method_3_code 14 = .ok (.return_, 1) := by decide +kernel
theorem d_De_read_0 : decode prog_3_method_4_code 0 = .ok (.aload_n 1, 1) := by decide +kernel
theorem d_De_read_1 : decode prog_3_method_4_code 1 = .ok (.iconst 1, 1) := by decide +kernel
theorem d_De_read_2 : decode prog_3_method_4_code 2 = .ok (.invokevirtual 41, 3) := by decide +kernel
theorem d_De_read_5 : decode prog_3_method_4_code 5 = .ok (.lstore_n 2, 1) := by decide +kernel
theorem d_De_read_6 : decode prog_3_method_4_code 6 = .ok (.aload_n 1, 1) := by decide +kernel
theorem d_De_read_7 : decode prog_3_method_4_code 7 = .ok (.invokevirtual 45, 3) := by decide +kernel
theorem d_De_read_10 : decode prog_3_method_4_code 10 = .ok (.ifCond .eq 10, 3) := by decide +kernel
theorem d_De_read_13 : decode prog_3_method_4_code 13 = .ok (.aload_n 0, 1) := by decide +kernel
theorem d_De_read_14 : decode prog_3_method_4_code 14 = .ok (.aload_n 1, 1) := by decide +kernel
theorem d_De_read_15 : decode prog_3_method_4_code 15 = .ok (.lload_n 2, 1) := by decide +kernel
theorem d_De_read_16 : decode prog_3_method_4_code 16 = .ok (.invokevirtual 49, 3) := by decide +kernel
theorem d_De_read_19 : decode prog_3_method_4_code 19 = .ok (.ireturn, 1) := by decide +kernel
theorem d_De_read_20 : decode prog_3_method_4_code 20 = .ok (.aload_n 0, 1) := by decide +kernel
theorem d_De_read_21 : decode prog_3_method_4_code 21 = .ok (.aload_n 1, 1) := by decide +kernel
theorem d_De_read_22 : decode prog_3_method_4_code 22 = .ok (.aload_n 0, 1) := by decide +kernel
theorem d_De_read_23 : decode prog_3_method_4_code 23 = .ok (.getfield 28, 3) := by decide +kernel
theorem d_De_read_26 : decode prog_3_method_4_code 26 = .ok (.iconst 0, 1) := by decide +kernel
theorem d_De_read_27 : decode prog_3_method_4_code 27 = .ok (.invokevirtual 53, 3) := by decide +kernel
theorem d_De_read_30 : decode prog_3_method_4_code 30 = .ok (.putfield 57, 3) := by decide +kernel
theorem d_De_read_33 : decode prog_3_method_4_code 33 = .ok (.aload_n 0, 1) := by decide +kernel
theorem d_De_read_34 : decode prog_3_method_4_code 34 = .ok (.lload_n 2, 1) := by decide +kernel
theorem d_De_read_35 : decode prog_3_method_4_code 35 = .ok (.putfield 60, 3) := by decide +kernel
theorem d_De_read_38 : decode prog_3_method_4_code 38 = .ok (.aload_n 0, 1) := by decide +kernel
theorem d_De_read_39 : decode prog_3_method_4_code 39 = .ok (.getfield 57, 3) := by decide +kernel
theorem d_De_read_42 : decode prog_3_method_4_code 42 = .ok (.ireturn, 1) := by decide +kernel
theorem d_De_gather_0 : decode prog_3_method_5_code 0 = .ok (.aload_n 1, 1) := by decide +kernel
theorem d_De_gather_1 : decode prog_3_method_5_code 1 = .ok (.invokevirtual 64, 3) := by decide +kernel
theorem d_De_gather_4 : decode prog_3_method_5_code 4 = .ok (.iconst 1, 1) := by decide +kernel
theorem d_De_gather_5 : decode prog_3_method_5_code 5 = .ok (.iadd, 1) := by decide +kernel
theorem d_De_gather_6 : decode prog_3_method_5_code 6 = .ok (.istore 4, 2) := by decide +kernel
theorem d_De_gather_8 : decode prog_3_method_5_code 8 = .ok (.aload_n 0, 1) := by decide +kernel
theorem d_De_gather_9 : decode prog_3_method_5_code 9 = .ok (.lload_n 2, 1) := by decide +kernel
theorem d_De_gather_10 : decode prog_3_method_5_code 10 = .ok (.aload_n 1, 1) := by decide +kernel
theorem d_De_gather_11 : decode prog_3_method_5_code 11 = .ok (.iload 4, 2) := by decide +kernel
theorem d_De_gather_13 : decode prog_3_method_5_code 13 = .ok (.iconst 3, 1) := by decide +kernel
theorem d_De_gather_14 : decode prog_3_method_5_code 14 = .ok (.iadd, 1) := by decide +kernel
theorem d_De_gather_15 : decode prog_3_method_5_code 15 = .ok (.invokevirtual 68, 3) := by decide +kernel
theorem d_De_gather_18 : decode prog_3_method_5_code 18 = .ok (.aload_n 1, 1) := by decide +kernel
theorem d_De_gather_19 : decode prog_3_method_5_code 19 = .ok (.iload 4, 2) := by decide +kernel
theorem d_De_gather_21 : decode prog_3_method_5_code 21 = .ok (.iconst 4, 1) := by decide +kernel
theorem d_De_gather_22 : decode prog_3_method_5_code 22 = .ok (.iadd, 1) := by decide +kernel
theorem d_De_gather_23 : decode prog_3_method_5_code 23 = .ok (.invokevirtual 68, 3) := by decide +kernel
theorem d_De_gather_26 : decode prog_3_method_5_code 26 = .ok (.invokevirtual 72, 3) := by decide +kernel
theorem d_De_gather_29 : decode prog_3_method_5_code 29 = .ok (.istore 5, 2) := by decide +kernel
theorem d_De_gather_31 : decode prog_3_method_5_code 31 = .ok (.aload_n 0, 1) := by decide +kernel
theorem d_De_gather_32 : decode prog_3_method_5_code 32 = .ok (.getfield 24, 3) := by decide +kernel
theorem d_De_gather_35 : decode prog_3_method_5_code 35 = .ok (.iload 5, 2) := by decide +kernel
theorem d_De_gather_37 : decode prog_3_method_5_code 37 = .ok (.invokevirtual 76, 3) := by decide +kernel
theorem d_De_gather_40 : decode prog_3_method_5_code 40 = .ok (.checkcast 80, 3) := by decide +kernel
theorem d_De_gather_43 : decode prog_3_method_5_code 43 = .ok (.astore 6, 2) := by decide +kernel
theorem d_De_gather_45 : decode prog_3_method_5_code 45 = .ok (.aload 6, 2) := by decide +kernel
theorem d_De_gather_47 : decode prog_3_method_5_code 47 = .ok (.aload_n 1, 1) := by decide +kernel
theorem d_De_gather_48 : decode prog_3_method_5_code 48 = .ok (.iload 4, 2) := by decide +kernel
theorem d_De_gather_50 : decode prog_3_method_5_code 50 = .ok (.iconst 5, 1) := by decide +kernel
theorem d_De_gather_51 : decode prog_3_method_5_code 51 = .ok (.iadd, 1) := by decide +kernel
theorem d_De_gather_52 : decode prog_3_method_5_code 52 = .ok (.invokevirtual 68, 3) := by decide +kernel
theorem d_De_gather_55 : decode prog_3_method_5_code 55 = .ok (.aload_n 1, 1) := by decide +kernel
theorem d_De_gather_56 : decode prog_3_method_5_code 56 = .ok (.invokevirtual 82, 3) := by decide +kernel
theorem d_De_gather_59 : decode prog_3_method_5_code 59 = .ok (.aload 6, 2) := by decide +kernel
theorem d_De_gather_61 : decode prog_3_method_5_code 61 = .ok (.invokevirtual 86, 3) := by decide +kernel
theorem d_De_gather_64 : decode prog_3_method_5_code 64 = .ok (.ifCond .le 11, 3) := by decide +kernel
theorem d_De_gather_67 : decode prog_3_method_5_code 67 = .ok (.iconst (-1), 1) := by decide +kernel
theorem d_De_gather_68 : decode prog_3_method_5_code 68 = .ok (.aload 6, 2) := by decide +kernel
theorem d_De_gather_70 : decode prog_3_method_5_code 70 = .ok (.invokevirtual 86, 3) := by decide +kernel
theorem d_De_gather_73 : decode prog_3_method_5_code 73 = .ok (.isub, 1) := by decide +kernel
theorem d_De_gather_74 : decode prog_3_method_5_code 74 = .ok (.ireturn, 1) := by decide +kernel
theorem d_De_gather_75 : decode prog_3_method_5_code 75 = .ok (.aload_n 0, 1) := by decide +kernel
theorem d_De_gather_76 : decode prog_3_method_5_code 76 = .ok (.getfield 24, 3) := by decide +kernel
theorem d_De_gather_79 : decode prog_3_method_5_code 79 = .ok (.iload 5, 2) := by decide +kernel
theorem d_De_gather_81 : decode prog_3_method_5_code 81 = .ok (.invokevirtual 89, 3) := by decide +kernel
theorem d_De_gather_84 : decode prog_3_method_5_code 84 = .ok (.pop, 1) := by decide +kernel
theorem d_De_gather_85 : decode prog_3_method_5_code 85 = .ok (.aload_n 0, 1) := by decide +kernel
theorem d_De_gather_86 : decode prog_3_method_5_code 86 = .ok (.aload 6, 2) := by decide +kernel
theorem d_De_gather_88 : decode prog_3_method_5_code 88 = .ok (.aload_n 0, 1) := by decide +kernel
theorem d_De_gather_89 : decode prog_3_method_5_code 89 = .ok (.getfield 28, 3) := by decide +kernel
theorem d_De_gather_92 : decode prog_3_method_5_code 92 = .ok (.invokevirtual 92, 3) := by decide +kernel
theorem d_De_gather_95 : decode prog_3_method_5_code 95 = .ok (.putfield 57, 3) := by decide +kernel
theorem d_De_gather_98 : decode prog_3_method_5_code 98 = .ok (.aload_n 0, 1) := by decide +kernel
theorem d_De_gather_99 : decode prog_3_method_5_code 99 = .ok (.lload_n 2, 1) := by decide +kernel
theorem d_De_gather_100 : decode prog_3_method_5_code 100 = .ok (.putfield 60, 3) := by decide +kernel
theorem d_De_gather_103 : decode prog_3_method_5_code 103 = .ok (.aload_n 0, 1) := by decide +kernel
theorem d_De_gather_104 : decode prog_3_method_5_code 104 = .ok (.getfield 57, 3) := by decide +kernel
theorem d_De_gather_107 : decode prog_3_method_5_code 107 = .ok (.ireturn, 1) := by decide +kernel
theorem d_De_pilePlace_0 : decode prog_3_method_6_code 0 = .ok (.iconst 0, 1) := by decide +kernel
theorem d_De_pilePlace_1 : decode prog_3_method_6_code 1 = .ok (.istore 5, 2) := by decide +kernel
theorem d_De_pilePlace_3 : decode prog_3_method_6_code 3 = .ok (.iload 5, 2) := by decide +kernel
theorem d_De_pilePlace_5 : decode prog_3_method_6_code 5 = .ok (.aload_n 0, 1) := by decide +kernel
theorem d_De_pilePlace_6 : decode prog_3_method_6_code 6 = .ok (.getfield 24, 3) := by decide +kernel
theorem d_De_pilePlace_9 : decode prog_3_method_6_code 9 = .ok (.invokevirtual 95, 3) := by decide +kernel
theorem d_De_pilePlace_12 : decode prog_3_method_6_code 12 = .ok (.if_icmp .ge 34, 3) := by decide +kernel
theorem d_De_pilePlace_15 : decode prog_3_method_6_code 15 = .ok (.aload_n 0, 1) := by decide +kernel
theorem d_De_pilePlace_16 : decode prog_3_method_6_code 16 = .ok (.getfield 24, 3) := by decide +kernel
theorem d_De_pilePlace_19 : decode prog_3_method_6_code 19 = .ok (.iload 5, 2) := by decide +kernel
theorem d_De_pilePlace_21 : decode prog_3_method_6_code 21 = .ok (.invokevirtual 76, 3) := by decide +kernel
theorem d_De_pilePlace_24 : decode prog_3_method_6_code 24 = .ok (.checkcast 80, 3) := by decide +kernel
theorem d_De_pilePlace_27 : decode prog_3_method_6_code 27 = .ok (.lload_n 1, 1) := by decide +kernel
theorem d_De_pilePlace_28 : decode prog_3_method_6_code 28 = .ok (.iload_n 3, 1) := by decide +kernel
theorem d_De_pilePlace_29 : decode prog_3_method_6_code 29 = .ok (.iload 4, 2) := by decide +kernel
theorem d_De_pilePlace_31 : decode prog_3_method_6_code 31 = .ok (.invokevirtual 98, 3) := by decide +kernel
theorem d_De_pilePlace_34 : decode prog_3_method_6_code 34 = .ok (.ifCond .eq 6, 3) := by decide +kernel
theorem d_De_pilePlace_37 : decode prog_3_method_6_code 37 = .ok (.iload 5, 2) := by decide +kernel
theorem d_De_pilePlace_39 : decode prog_3_method_6_code 39 = .ok (.ireturn, 1) := by decide +kernel
theorem d_De_pilePlace_40 : decode prog_3_method_6_code 40 = .ok (.iinc 5 1, 3) := by decide +kernel
theorem d_De_pilePlace_43 : decode prog_3_method_6_code 43 = .ok (.goto (-40), 3) := by decide +kernel
theorem d_De_pilePlace_46 : decode prog_3_method_6_code 46 = .ok (.aload_n 0, 1) := by decide +kernel
theorem d_De_pilePlace_47 : decode prog_3_method_6_code 47 = .ok (.getfield 24, 3) := by decide +kernel
theorem d_De_pilePlace_50 : decode prog_3_method_6_code 50 = .ok (.invokevirtual 95, 3) := by decide +kernel
theorem d_De_pilePlace_53 : decode prog_3_method_6_code 53 = .ok (.iconst 3, 1) := by decide +kernel
theorem d_De_pilePlace_54 : decode prog_3_method_6_code 54 = .ok (.if_icmp .lt 12, 3) := by decide +kernel
theorem d_De_pilePlace_57 : decode prog_3_method_6_code 57 = .ok (.aload_n 0, 1) := by decide +kernel
theorem d_De_pilePlace_58 : decode prog_3_method_6_code 58 = .ok (.getfield 24, 3) := by decide +kernel
theorem d_De_pilePlace_61 : decode prog_3_method_6_code 61 = .ok (.iconst 0, 1) := by decide +kernel
theorem d_De_pilePlace_62 : decode prog_3_method_6_code 62 = .ok (.invokevirtual 89, 3) := by decide +kernel
theorem d_De_pilePlace_65 : decode prog_3_method_6_code 65 = .ok (.pop, 1) := by decide +kernel
theorem d_De_pilePlace_66 : decode prog_3_method_6_code 66 = .ok (.aload_n 0, 1) := by decide +kernel
theorem d_De_pilePlace_67 : decode prog_3_method_6_code 67 = .ok (.getfield 24, 3) := by decide +kernel
theorem d_De_pilePlace_70 : decode prog_3_method_6_code 70 = .ok (.new 80, 3) := by decide +kernel
theorem d_De_pilePlace_73 : decode prog_3_method_6_code 73 = .ok (.dup, 1) := by decide +kernel
theorem d_De_pilePlace_74 : decode prog_3_method_6_code 74 = .ok (.lload_n 1, 1) := by decide +kernel
theorem d_De_pilePlace_75 : decode prog_3_method_6_code 75 = .ok (.iload_n 3, 1) := by decide +kernel
theorem d_De_pilePlace_76 : decode prog_3_method_6_code 76 = .ok (.iload 4, 2) := by decide +kernel
theorem d_De_pilePlace_78 : decode prog_3_method_6_code 78 = .ok (.invokespecial 102, 3) := by decide +kernel
theorem d_De_pilePlace_81 : decode prog_3_method_6_code 81 = .ok (.invokevirtual 105, 3) := by decide +kernel
theorem d_De_pilePlace_84 : decode prog_3_method_6_code 84 = .ok (.pop, 1) := by decide +kernel
theorem d_De_pilePlace_85 : decode prog_3_method_6_code 85 = .ok (.aload_n 0, 1) := by decide +kernel
theorem d_De_pilePlace_86 : decode prog_3_method_6_code 86 = .ok (.getfield 24, 3) := by decide +kernel
theorem d_De_pilePlace_89 : decode prog_3_method_6_code 89 = .ok (.invokevirtual 95, 3) := by decide +kernel
theorem d_De_pilePlace_92 : decode prog_3_method_6_code 92 = .ok (.iconst 1, 1) := by decide +kernel
theorem d_De_pilePlace_93 : decode prog_3_method_6_code 93 = .ok (.isub, 1) := by decide +kernel
theorem d_De_pilePlace_94 : decode prog_3_method_6_code 94 = .ok (.ireturn, 1) := by decide +kernel
theorem d_Dr_init_0 : decode prog_4_method_1_code 0 = .ok (.aload_n 0, 1) := by decide +kernel
theorem d_Dr_init_1 : decode prog_4_method_1_code 1 = .ok (.invokespecial 1, 3) := by decide +kernel
theorem d_Dr_init_4 : decode prog_4_method_1_code 4 = .ok (.aload_n 0, 1) := by decide +kernel
theorem d_Dr_init_5 : decode prog_4_method_1_code 5 = .ok (.sipush 480, 3) := by decide +kernel
theorem d_Dr_init_8 : decode prog_4_method_1_code 8 = .ok (.newarray .int, 2) := by decide +kernel
theorem d_Dr_init_10 : decode prog_4_method_1_code 10 = .ok (.putfield 9, 3) := by decide +kernel
theorem d_Dr_init_13 : decode prog_4_method_1_code 13 = .ok (.return_, 1) := by decide +kernel
theorem d_Dr_room_0 : decode prog_4_method_2_code 0 = .ok (.sipush 480, 3) := by decide +kernel
theorem d_Dr_room_3 : decode prog_4_method_2_code 3 = .ok (.aload_n 0, 1) := by decide +kernel
theorem d_Dr_room_4 : decode prog_4_method_2_code 4 = .ok (.getfield 13, 3) := by decide +kernel
theorem d_Dr_room_7 : decode prog_4_method_2_code 7 = .ok (.isub, 1) := by decide +kernel
theorem d_Dr_room_8 : decode prog_4_method_2_code 8 = .ok (.ireturn, 1) := by decide +kernel
theorem d_Dr_append_0 : decode prog_4_method_3_code 0 = .ok (.iconst 0, 1) := by decide +kernel
theorem d_Dr_append_1 : decode prog_4_method_3_code 1 = .ok (.istore_n 3, 1) := by decide +kernel
theorem d_Dr_append_2 : decode prog_4_method_3_code 2 = .ok (.iload_n 3, 1) := by decide +kernel
theorem d_Dr_append_3 : decode prog_4_method_3_code 3 = .ok (.iload_n 2, 1) := by decide +kernel
theorem d_Dr_append_4 : decode prog_4_method_3_code 4 = .ok (.if_icmp .ge 39, 3) := by decide +kernel
theorem d_Dr_append_7 : decode prog_4_method_3_code 7 = .ok (.aload_n 0, 1) := by decide +kernel
theorem d_Dr_append_8 : decode prog_4_method_3_code 8 = .ok (.getfield 13, 3) := by decide +kernel
theorem d_Dr_append_11 : decode prog_4_method_3_code 11 = .ok (.sipush 480, 3) := by decide +kernel
theorem d_Dr_append_14 : decode prog_4_method_3_code 14 = .ok (.if_icmp .ge 29, 3) := by decide +kernel
theorem d_Dr_append_17 : decode prog_4_method_3_code 17 = .ok (.aload_n 0, 1) := by decide +kernel
theorem d_Dr_append_18 : decode prog_4_method_3_code 18 = .ok (.getfield 9, 3) := by decide +kernel
theorem d_Dr_append_21 : decode prog_4_method_3_code 21 = .ok (.aload_n 0, 1) := by decide +kernel
theorem d_Dr_append_22 : decode prog_4_method_3_code 22 = .ok (.getfield 13, 3) := by decide +kernel
theorem d_Dr_append_25 : decode prog_4_method_3_code 25 = .ok (.iload_n 1, 1) := by decide +kernel
theorem d_Dr_append_26 : decode prog_4_method_3_code 26 = .ok (.iastore, 1) := by decide +kernel
theorem d_Dr_append_27 : decode prog_4_method_3_code 27 = .ok (.aload_n 0, 1) := by decide +kernel
theorem d_Dr_append_28 : decode prog_4_method_3_code 28 = .ok (.dup, 1) := by decide +kernel
theorem d_Dr_append_29 : decode prog_4_method_3_code 29 = .ok (.getfield 13, 3) := by decide +kernel
theorem d_Dr_append_32 : decode prog_4_method_3_code 32 = .ok (.iconst 1, 1) := by decide +kernel
theorem d_Dr_append_33 : decode prog_4_method_3_code 33 = .ok (.iadd, 1) := by decide +kernel
theorem d_Dr_append_34 : decode prog_4_method_3_code 34 = .ok (.putfield 13, 3) := by decide +kernel
theorem d_Dr_append_37 : decode prog_4_method_3_code 37 = .ok (.iinc 3 1, 3) := by decide +kernel
theorem d_Dr_append_40 : decode prog_4_method_3_code 40 = .ok (.goto (-38), 3) := by decide +kernel
theorem d_Dr_append_43 : decode prog_4_method_3_code 43 = .ok (.return_, 1) := by decide +kernel
theorem d_Dr_hasAlien_0 : decode prog_4_method_4_code 0 = .ok (.iconst 0, 1) := by decide +kernel
theorem d_Dr_hasAlien_1 : decode prog_4_method_4_code 1 = .ok (.istore_n 1, 1) := by decide +kernel
theorem d_Dr_hasAlien_2 : decode prog_4_method_4_code 2 = .ok (.iload_n 1, 1) := by decide +kernel
theorem d_Dr_hasAlien_3 : decode prog_4_method_4_code 3 = .ok (.aload_n 0, 1) := by decide +kernel
theorem d_Dr_hasAlien_4 : decode prog_4_method_4_code 4 = .ok (.getfield 13, 3) := by decide +kernel
theorem d_Dr_hasAlien_7 : decode prog_4_method_4_code 7 = .ok (.if_icmp .ge 21, 3) := by decide +kernel
theorem d_Dr_hasAlien_10 : decode prog_4_method_4_code 10 = .ok (.aload_n 0, 1) := by decide +kernel
theorem d_Dr_hasAlien_11 : decode prog_4_method_4_code 11 = .ok (.getfield 9, 3) := by decide +kernel
theorem d_Dr_hasAlien_14 : decode prog_4_method_4_code 14 = .ok (.iload_n 1, 1) := by decide +kernel
theorem d_Dr_hasAlien_15 : decode prog_4_method_4_code 15 = .ok (.iaload, 1) := by decide +kernel
theorem d_Dr_hasAlien_16 : decode prog_4_method_4_code 16 = .ok (.iconst (-1), 1) := by decide +kernel
theorem d_Dr_hasAlien_17 : decode prog_4_method_4_code 17 = .ok (.if_icmp .ne 5, 3) := by decide +kernel
theorem d_Dr_hasAlien_20 : decode prog_4_method_4_code 20 = .ok (.iconst 1, 1) := by decide +kernel
theorem d_Dr_hasAlien_21 : decode prog_4_method_4_code 21 = .ok (.ireturn, 1) := by decide +kernel
theorem d_Dr_hasAlien_22 : decode prog_4_method_4_code 22 = .ok (.iinc 1 1, 3) := by decide +kernel
theorem d_Dr_hasAlien_25 : decode prog_4_method_4_code 25 = .ok (.goto (-23), 3) := by decide +kernel
theorem d_Dr_hasAlien_28 : decode prog_4_method_4_code 28 = .ok (.iconst 0, 1) := by decide +kernel
theorem d_Dr_hasAlien_29 : decode prog_4_method_4_code 29 = .ok (.ireturn, 1) := by decide +kernel
theorem d_Dr_septets_0 : decode prog_4_method_5_code 0 = .ok (.iconst 0, 1) := by decide +kernel
theorem d_Dr_septets_1 : decode prog_4_method_5_code 1 = .ok (.istore_n 3, 1) := by decide +kernel
theorem d_Dr_septets_2 : decode prog_4_method_5_code 2 = .ok (.iload_n 1, 1) := by decide +kernel
theorem d_Dr_septets_3 : decode prog_4_method_5_code 3 = .ok (.istore 4, 2) := by decide +kernel
theorem d_Dr_septets_5 : decode prog_4_method_5_code 5 = .ok (.iload 4, 2) := by decide +kernel
theorem d_Dr_septets_7 : decode prog_4_method_5_code 7 = .ok (.iload_n 2, 1) := by decide +kernel
theorem d_Dr_septets_8 : decode prog_4_method_5_code 8 = .ok (.if_icmp .ge 22, 3) := by decide +kernel
theorem d_Dr_septets_11 : decode prog_4_method_5_code 11 = .ok (.iload_n 3, 1) := by decide +kernel
theorem d_Dr_septets_12 : decode prog_4_method_5_code 12 = .ok (.aload_n 0, 1) := by decide +kernel
theorem d_Dr_septets_13 : decode prog_4_method_5_code 13 = .ok (.getfield 9, 3) := by decide +kernel
theorem d_Dr_septets_16 : decode prog_4_method_5_code 16 = .ok (.iload 4, 2) := by decide +kernel
theorem d_Dr_septets_18 : decode prog_4_method_5_code 18 = .ok (.iaload, 1) := by decide +kernel
theorem d_Dr_septets_19 : decode prog_4_method_5_code 19 = .ok (.invokestatic 19, 3) := by decide +kernel
theorem d_Dr_septets_22 : decode prog_4_method_5_code 22 = .ok (.iadd, 1) := by decide +kernel
theorem d_Dr_septets_23 : decode prog_4_method_5_code 23 = .ok (.istore_n 3, 1) := by decide +kernel
theorem d_Dr_septets_24 : decode prog_4_method_5_code 24 = .ok (.iinc 4 1, 3) := by decide +kernel
theorem d_Dr_septets_27 : decode prog_4_method_5_code 27 = .ok (.goto (-22), 3) := by decide +kernel
theorem d_Dr_septets_30 : decode prog_4_method_5_code 30 = .ok (.iload_n 3, 1) := by decide +kernel
theorem d_Dr_septets_31 : decode prog_4_method_5_code 31 = .ok (.ireturn, 1) := by decide +kernel
theorem d_Dr_partCount_0 : decode prog_4_method_6_code 0 = .ok (.aload_n 0, 1) := by decide +kernel
theorem d_Dr_partCount_1 : decode prog_4_method_6_code 1 = .ok (.iconst 0, 1) := by decide +kernel
theorem d_Dr_partCount_2 : decode prog_4_method_6_code 2 = .ok (.aload_n 0, 1) := by decide +kernel
theorem d_Dr_partCount_3 : decode prog_4_method_6_code 3 = .ok (.getfield 13, 3) := by decide +kernel
theorem d_Dr_partCount_6 : decode prog_4_method_6_code 6 = .ok (.invokevirtual 23, 3) := by decide +kernel
theorem d_Dr_partCount_9 : decode prog_4_method_6_code 9 = .ok (.sipush 160, 3) := by decide +kernel
theorem d_Dr_partCount_12 : decode prog_4_method_6_code 12 = .ok (.if_icmp .gt 5, 3) := by decide +kernel
theorem d_Dr_partCount_15 : decode prog_4_method_6_code 15 = .ok (.iconst 1, 1) := by decide +kernel
theorem d_Dr_partCount_16 : decode prog_4_method_6_code 16 = .ok (.ireturn, 1) := by decide +kernel
theorem d_Dr_partCount_17 : decode prog_4_method_6_code 17 = .ok (.iconst 1, 1) := by decide +kernel
theorem d_Dr_partCount_18 : decode prog_4_method_6_code 18 = .ok (.istore_n 1, 1) := by decide +kernel
theorem d_Dr_partCount_19 : decode prog_4_method_6_code 19 = .ok (.iconst 0, 1) := by decide +kernel
theorem d_Dr_partCount_20 : decode prog_4_method_6_code 20 = .ok (.istore_n 2, 1) := by decide +kernel
theorem d_Dr_partCount_21 : decode prog_4_method_6_code 21 = .ok (.iconst 0, 1) := by decide +kernel
theorem d_Dr_partCount_22 : decode prog_4_method_6_code 22 = .ok (.istore_n 3, 1) := by decide +kernel
theorem d_Dr_partCount_23 : decode prog_4_method_6_code 23 = .ok (.iload_n 3, 1) := by decide +kernel
theorem d_Dr_partCount_24 : decode prog_4_method_6_code 24 = .ok (.aload_n 0, 1) := by decide +kernel
theorem d_Dr_partCount_25 : decode prog_4_method_6_code 25 = .ok (.getfield 13, 3) := by decide +kernel
theorem d_Dr_partCount_28 : decode prog_4_method_6_code 28 = .ok (.if_icmp .ge 40, 3) := by decide +kernel
theorem d_Dr_partCount_31 : decode prog_4_method_6_code 31 = .ok (.aload_n 0, 1) := by decide +kernel
theorem d_Dr_partCount_32 : decode prog_4_method_6_code 32 = .ok (.getfield 9, 3) := by decide +kernel
theorem d_Dr_partCount_35 : decode prog_4_method_6_code 35 = .ok (.iload_n 3, 1) := by decide +kernel
theorem d_Dr_partCount_36 : decode prog_4_method_6_code 36 = .ok (.iaload, 1) := by decide +kernel
theorem d_Dr_partCount_37 : decode prog_4_method_6_code 37 = .ok (.invokestatic 19, 3) := by decide +kernel
theorem d_Dr_partCount_40 : decode prog_4_method_6_code 40 = .ok (.istore 4, 2) := by decide +kernel
theorem d_Dr_partCount_42 : decode prog_4_method_6_code 42 = .ok (.iload_n 2, 1) := by decide +kernel
theorem d_Dr_partCount_43 : decode prog_4_method_6_code 43 = .ok (.iload 4, 2) := by decide +kernel
theorem d_Dr_partCount_45 : decode prog_4_method_6_code 45 = .ok (.iadd, 1) := by decide +kernel
theorem d_Dr_partCount_46 : decode prog_4_method_6_code 46 = .ok (.sipush 153, 3) := by decide +kernel
theorem d_Dr_partCount_49 : decode prog_4_method_6_code 49 = .ok (.if_icmp .le 8, 3) := by decide +kernel
theorem d_Dr_partCount_52 : decode prog_4_method_6_code 52 = .ok (.iinc 1 1, 3) := by decide +kernel
theorem d_Dr_partCount_55 : decode prog_4_method_6_code 55 = .ok (.iconst 0, 1) := by decide +kernel
theorem d_Dr_partCount_56 : decode prog_4_method_6_code 56 = .ok (.istore_n 2, 1) := by decide +kernel
theorem d_Dr_partCount_57 : decode prog_4_method_6_code 57 = .ok (.iload_n 2, 1) := by decide +kernel
theorem d_Dr_partCount_58 : decode prog_4_method_6_code 58 = .ok (.iload 4, 2) := by decide +kernel
theorem d_Dr_partCount_60 : decode prog_4_method_6_code 60 = .ok (.iadd, 1) := by decide +kernel
theorem d_Dr_partCount_61 : decode prog_4_method_6_code 61 = .ok (.istore_n 2, 1) := by decide +kernel
theorem d_Dr_partCount_62 : decode prog_4_method_6_code 62 = .ok (.iinc 3 1, 3) := by decide +kernel
theorem d_Dr_partCount_65 : decode prog_4_method_6_code 65 = .ok (.goto (-42), 3) := by decide +kernel
theorem d_Dr_partCount_68 : decode prog_4_method_6_code 68 = .ok (.iload_n 1, 1) := by decide +kernel
theorem d_Dr_partCount_69 : decode prog_4_method_6_code 69 = .ok (.ireturn, 1) := by decide +kernel
theorem d_Dr_partEnd_0 : decode prog_4_method_7_code 0 = .ok (.iconst 0, 1) := by decide +kernel
theorem d_Dr_partEnd_1 : decode prog_4_method_7_code 1 = .ok (.istore_n 2, 1) := by decide +kernel
theorem d_Dr_partEnd_2 : decode prog_4_method_7_code 2 = .ok (.iload_n 1, 1) := by decide +kernel
theorem d_Dr_partEnd_3 : decode prog_4_method_7_code 3 = .ok (.istore_n 3, 1) := by decide +kernel
theorem d_Dr_partEnd_4 : decode prog_4_method_7_code 4 = .ok (.iload_n 3, 1) := by decide +kernel
theorem d_Dr_partEnd_5 : decode prog_4_method_7_code 5 = .ok (.aload_n 0, 1) := by decide +kernel
theorem d_Dr_partEnd_6 : decode prog_4_method_7_code 6 = .ok (.getfield 13, 3) := by decide +kernel
theorem d_Dr_partEnd_9 : decode prog_4_method_7_code 9 = .ok (.if_icmp .ge 30, 3) := by decide +kernel
theorem d_Dr_partEnd_12 : decode prog_4_method_7_code 12 = .ok (.iload_n 2, 1) := by decide +kernel
theorem d_Dr_partEnd_13 : decode prog_4_method_7_code 13 = .ok (.aload_n 0, 1) := by decide +kernel
theorem d_Dr_partEnd_14 : decode prog_4_method_7_code 14 = .ok (.getfield 9, 3) := by decide +kernel
theorem d_Dr_partEnd_17 : decode prog_4_method_7_code 17 = .ok (.iload_n 3, 1) := by decide +kernel
theorem d_Dr_partEnd_18 : decode prog_4_method_7_code 18 = .ok (.iaload, 1) := by decide +kernel
theorem d_Dr_partEnd_19 : decode prog_4_method_7_code 19 = .ok (.invokestatic 19, 3) := by decide +kernel
theorem d_Dr_partEnd_22 : decode prog_4_method_7_code 22 = .ok (.iadd, 1) := by decide +kernel
theorem d_Dr_partEnd_23 : decode prog_4_method_7_code 23 = .ok (.istore_n 2, 1) := by decide +kernel
theorem d_Dr_partEnd_24 : decode prog_4_method_7_code 24 = .ok (.iload_n 2, 1) := by decide +kernel
theorem d_Dr_partEnd_25 : decode prog_4_method_7_code 25 = .ok (.sipush 153, 3) := by decide +kernel
theorem d_Dr_partEnd_28 : decode prog_4_method_7_code 28 = .ok (.if_icmp .le 5, 3) := by decide +kernel
theorem d_Dr_partEnd_31 : decode prog_4_method_7_code 31 = .ok (.iload_n 3, 1) := by decide +kernel
theorem d_Dr_partEnd_32 : decode prog_4_method_7_code 32 = .ok (.ireturn, 1) := by decide +kernel
theorem d_Dr_partEnd_33 : decode prog_4_method_7_code 33 = .ok (.iinc 3 1, 3) := by decide +kernel
theorem d_Dr_partEnd_36 : decode prog_4_method_7_code 36 = .ok (.goto (-32), 3) := by decide +kernel
theorem d_Dr_partEnd_39 : decode prog_4_method_7_code 39 = .ok (.aload_n 0, 1) := by decide +kernel
theorem d_Dr_partEnd_40 : decode prog_4_method_7_code 40 = .ok (.getfield 13, 3) := by decide +kernel
theorem d_Dr_partEnd_43 : decode prog_4_method_7_code 43 = .ok (.ireturn, 1) := by decide +kernel
theorem d_Dr_pack_0 : decode prog_4_method_8_code 0 = .ok (.aload_n 3, 1) := by decide +kernel
theorem d_Dr_pack_1 : decode prog_4_method_8_code 1 = .ok (.invokevirtual 27, 3) := by decide +kernel
theorem d_Dr_pack_4 : decode prog_4_method_8_code 4 = .ok (.iconst 1, 1) := by decide +kernel
theorem d_Dr_pack_5 : decode prog_4_method_8_code 5 = .ok (.iadd, 1) := by decide +kernel
theorem d_Dr_pack_6 : decode prog_4_method_8_code 6 = .ok (.istore 4, 2) := by decide +kernel
theorem d_Dr_pack_8 : decode prog_4_method_8_code 8 = .ok (.aload_n 3, 1) := by decide +kernel
theorem d_Dr_pack_9 : decode prog_4_method_8_code 9 = .ok (.invokevirtual 33, 3) := by decide +kernel
theorem d_Dr_pack_12 : decode prog_4_method_8_code 12 = .ok (.istore 5, 2) := by decide +kernel
theorem d_Dr_pack_14 : decode prog_4_method_8_code 14 = .ok (.iload_n 1, 1) := by decide +kernel
theorem d_Dr_pack_15 : decode prog_4_method_8_code 15 = .ok (.istore 6, 2) := by decide +kernel
theorem d_Dr_pack_17 : decode prog_4_method_8_code 17 = .ok (.iload 6, 2) := by decide +kernel
theorem d_Dr_pack_19 : decode prog_4_method_8_code 19 = .ok (.iload_n 2, 1) := by decide +kernel
theorem d_Dr_pack_20 : decode prog_4_method_8_code 20 = .ok (.if_icmp .ge 55, 3) := by decide +kernel
theorem d_Dr_pack_23 : decode prog_4_method_8_code 23 = .ok (.aload_n 0, 1) := by decide +kernel
theorem d_Dr_pack_24 : decode prog_4_method_8_code 24 = .ok (.getfield 9, 3) := by decide +kernel
theorem d_Dr_pack_27 : decode prog_4_method_8_code 27 = .ok (.iload 6, 2) := by decide +kernel
theorem d_Dr_pack_29 : decode prog_4_method_8_code 29 = .ok (.iaload, 1) := by decide +kernel
theorem d_Dr_pack_30 : decode prog_4_method_8_code 30 = .ok (.istore 7, 2) := by decide +kernel
theorem d_Dr_pack_32 : decode prog_4_method_8_code 32 = .ok (.iload 7, 2) := by decide +kernel
theorem d_Dr_pack_34 : decode prog_4_method_8_code 34 = .ok (.sipush 128, 3) := by decide +kernel
theorem d_Dr_pack_37 : decode prog_4_method_8_code 37 = .ok (.if_icmp .lt 16, 3) := by decide +kernel
theorem d_Dr_pack_40 : decode prog_4_method_8_code 40 = .ok (.aload_n 3, 1) := by decide +kernel
theorem d_Dr_pack_41 : decode prog_4_method_8_code 41 = .ok (.iload 4, 2) := by decide +kernel
theorem d_Dr_pack_43 : decode prog_4_method_8_code 43 = .ok (.iload 5, 2) := by decide +kernel
theorem d_Dr_pack_45 : decode prog_4_method_8_code 45 = .ok (.bipush 27, 2) := by decide +kernel
theorem d_Dr_pack_47 : decode prog_4_method_8_code 47 = .ok (.invokevirtual 36, 3) := by decide +kernel
theorem d_Dr_pack_50 : decode prog_4_method_8_code 50 = .ok (.iinc 5 7, 3) := by decide +kernel
theorem d_Dr_pack_53 : decode prog_4_method_8_code 53 = .ok (.aload_n 3, 1) := by decide +kernel
theorem d_Dr_pack_54 : decode prog_4_method_8_code 54 = .ok (.iload 4, 2) := by decide +kernel
theorem d_Dr_pack_56 : decode prog_4_method_8_code 56 = .ok (.iload 5, 2) := by decide +kernel
theorem d_Dr_pack_58 : decode prog_4_method_8_code 58 = .ok (.iload 7, 2) := by decide +kernel
theorem d_Dr_pack_60 : decode prog_4_method_8_code 60 = .ok (.bipush 127, 2) := by decide +kernel
theorem d_Dr_pack_62 : decode prog_4_method_8_code 62 = .ok (.iand, 1) := by decide +kernel
theorem d_Dr_pack_63 : decode prog_4_method_8_code 63 = .ok (.invokevirtual 36, 3) := by decide +kernel
theorem d_Dr_pack_66 : decode prog_4_method_8_code 66 = .ok (.iinc 5 7, 3) := by decide +kernel
theorem d_Dr_pack_69 : decode prog_4_method_8_code 69 = .ok (.iinc 6 1, 3) := by decide +kernel
theorem d_Dr_pack_72 : decode prog_4_method_8_code 72 = .ok (.goto (-55), 3) := by decide +kernel
theorem d_Dr_pack_75 : decode prog_4_method_8_code 75 = .ok (.return_, 1) := by decide +kernel
theorem d_Li_init_0 : decode prog_6_method_1_code 0 = .ok (.aload_n 0, 1) := by decide +kernel
theorem d_Li_init_1 : decode prog_6_method_1_code 1 = .ok (.invokespecial 1, 3) := by decide +kernel
theorem d_Li_init_4 : decode prog_6_method_1_code 4 = .ok (.aload_n 0, 1) := by decide +kernel
theorem d_Li_init_5 : decode prog_6_method_1_code 5 = .ok (.new 7, 3) := by decide +kernel
theorem d_Li_init_8 : decode prog_6_method_1_code 8 = .ok (.dup, 1) := by decide +kernel
theorem d_Li_init_9 : decode prog_6_method_1_code 9 = .ok (.invokespecial 9, 3) := by decide +kernel
theorem d_Li_init_12 : decode prog_6_method_1_code 12 = .ok (.putfield 10, 3) := by decide +kernel
theorem d_Li_init_15 : decode prog_6_method_1_code 15 = .ok (.aload_n 0, 1) := by decide +kernel
theorem d_Li_init_16 : decode prog_6_method_1_code 16 = .ok (.iload_n 1, 1) := by decide +kernel
theorem d_Li_init_17 : decode prog_6_method_1_code 17 = .ok (.putfield 16, 3) := by decide +kernel
theorem d_Li_init_20 : decode prog_6_method_1_code 20 = .ok (.return_, 1) := by decide +kernel
theorem d_Li_size_0 : decode prog_6_method_2_code 0 = .ok (.aload_n 0, 1) := by decide +kernel
theorem d_Li_size_1 : decode prog_6_method_2_code 1 = .ok (.getfield 10, 3) := by decide +kernel
theorem d_Li_size_4 : decode prog_6_method_2_code 4 = .ok (.invokevirtual 20, 3) := by decide +kernel
theorem d_Li_size_7 : decode prog_6_method_2_code 7 = .ok (.ireturn, 1) := by decide +kernel
theorem d_Li_room_0 : decode prog_6_method_3_code 0 = .ok (.aload_n 0, 1) := by decide +kernel
theorem d_Li_room_1 : decode prog_6_method_3_code 1 = .ok (.getfield 16, 3) := by decide +kernel
theorem d_Li_room_4 : decode prog_6_method_3_code 4 = .ok (.aload_n 0, 1) := by decide +kernel
theorem d_Li_room_5 : decode prog_6_method_3_code 5 = .ok (.getfield 10, 3) := by decide +kernel
theorem d_Li_room_8 : decode prog_6_method_3_code 8 = .ok (.invokevirtual 20, 3) := by decide +kernel
theorem d_Li_room_11 : decode prog_6_method_3_code 11 = .ok (.isub, 1) := by decide +kernel
theorem d_Li_room_12 : decode prog_6_method_3_code 12 = .ok (.ireturn, 1) := by decide +kernel
theorem d_Li_append_0 : decode prog_6_method_4_code 0 = .ok (.aload_n 0, 1) := by decide +kernel
theorem d_Li_append_1 : decode prog_6_method_4_code 1 = .ok (.getfield 10, 3) := by decide +kernel
theorem d_Li_append_4 : decode prog_6_method_4_code 4 = .ok (.invokevirtual 20, 3) := by decide +kernel
theorem d_Li_append_7 : decode prog_6_method_4_code 7 = .ok (.aload_n 0, 1) := by decide +kernel
theorem d_Li_append_8 : decode prog_6_method_4_code 8 = .ok (.getfield 16, 3) := by decide +kernel
theorem d_Li_append_11 : decode prog_6_method_4_code 11 = .ok (.if_icmp .ge 12, 3) := by decide +kernel
theorem d_Li_append_14 : decode prog_6_method_4_code 14 = .ok (.aload_n 0, 1) := by decide +kernel
theorem d_Li_append_15 : decode prog_6_method_4_code 15 = .ok (.getfield 10, 3) := by decide +kernel
theorem d_Li_append_18 : decode prog_6_method_4_code 18 = .ok (.aload_n 1, 1) := by decide +kernel
theorem d_Li_append_19 : decode prog_6_method_4_code 19 = .ok (.invokevirtual 24, 3) := by decide +kernel
theorem d_Li_append_22 : decode prog_6_method_4_code 22 = .ok (.pop, 1) := by decide +kernel
theorem d_Li_append_23 : decode prog_6_method_4_code 23 = .ok (.return_, 1) := by decide +kernel
theorem d_Li_first_0 : decode prog_6_method_5_code 0 = .ok (.aload_n 0, 1) := by decide +kernel
theorem d_Li_first_1 : decode prog_6_method_5_code 1 = .ok (.getfield 10, 3) := by decide +kernel
theorem d_Li_first_4 : decode prog_6_method_5_code 4 = .ok (.invokevirtual 28, 3) := by decide +kernel
theorem d_Li_first_7 : decode prog_6_method_5_code 7 = .ok (.ifCond .eq 7, 3) := by decide +kernel
theorem d_Li_first_10 : decode prog_6_method_5_code 10 = .ok (.aconst_null, 1) := by decide +kernel
theorem d_Li_first_11 : decode prog_6_method_5_code 11 = .ok (.goto 14, 3) := by decide +kernel
theorem d_Li_first_14 : decode prog_6_method_5_code 14 = .ok (.aload_n 0, 1) := by decide +kernel
theorem d_Li_first_15 : decode prog_6_method_5_code 15 = .ok (.getfield 10, 3) := by decide +kernel
theorem d_Li_first_18 : decode prog_6_method_5_code 18 = .ok (.iconst 0, 1) := by decide +kernel
theorem d_Li_first_19 : decode prog_6_method_5_code 19 = .ok (.invokevirtual 32, 3) := by decide +kernel
theorem d_Li_first_22 : decode prog_6_method_5_code 22 = .ok (.checkcast 36, 3) := by decide +kernel
theorem d_Li_first_25 : decode prog_6_method_5_code 25 = .ok (.areturn, 1) := by decide +kernel
theorem d_Li_removeFirst_0 : decode prog_6_method_6_code 0 = .ok (.aload_n 0, 1) := by decide +kernel
theorem d_Li_removeFirst_1 : decode prog_6_method_6_code 1 = .ok (.getfield 10, 3) := by decide +kernel
theorem d_Li_removeFirst_4 : decode prog_6_method_6_code 4 = .ok (.invokevirtual 28, 3) := by decide +kernel
theorem d_Li_removeFirst_7 : decode prog_6_method_6_code 7 = .ok (.ifCond .eq 7, 3) := by decide +kernel
theorem d_Li_removeFirst_10 : decode prog_6_method_6_code 10 = .ok (.aconst_null, 1) := by decide +kernel
theorem d_Li_removeFirst_11 : decode prog_6_method_6_code 11 = .ok (.goto 14, 3) := by decide +kernel
theorem d_Li_removeFirst_14 : decode prog_6_method_6_code 14 = .ok (.aload_n 0, 1) := by decide +kernel
theorem d_Li_removeFirst_15 : decode prog_6_method_6_code 15 = .ok (.getfield 10, 3) := by decide +kernel
theorem d_Li_removeFirst_18 : decode prog_6_method_6_code 18 = .ok (.iconst 0, 1) := by decide +kernel
theorem d_Li_removeFirst_19 : decode prog_6_method_6_code 19 = .ok (.invokevirtual 38, 3) := by decide +kernel
theorem d_Li_removeFirst_22 : decode prog_6_method_6_code 22 = .ok (.checkcast 36, 3) := by decide +kernel
theorem d_Li_removeFirst_25 : decode prog_6_method_6_code 25 = .ok (.areturn, 1) := by decide +kernel
end
section
theorem d_Li_exchangeFirstTwo_0 : decode prog_6_method_7_code 0 = .ok (.aload_n 0, 1) := by decide +kernel
theorem d_Li_exchangeFirstTwo_1 : decode prog_6_method_7_code 1 = .ok (.getfield 10, 3) := by decide +kernel
theorem d_Li_exchangeFirstTwo_4 : decode prog_6_method_7_code 4 = .ok (.invokevirtual 20, 3) := by decide +kernel
theorem d_Li_exchangeFirstTwo_7 : decode prog_6_method_7_code 7 = .ok (.iconst 2, 1) := by decide +kernel
theorem d_Li_exchangeFirstTwo_8 : decode prog_6_method_7_code 8 = .ok (.if_icmp .ge 5, 3) := by decide +kernel
theorem d_Li_exchangeFirstTwo_11 : decode prog_6_method_7_code 11 = .ok (.iconst 0, 1) := by decide +kernel
theorem d_Li_exchangeFirstTwo_12 : decode prog_6_method_7_code 12 = .ok (.ireturn, 1) := by decide +kernel
theorem d_Li_exchangeFirstTwo_13 : decode prog_6_method_7_code 13 = .ok (.aload_n 0, 1) := by decide +kernel
theorem d_Li_exchangeFirstTwo_14 : decode prog_6_method_7_code 14 = .ok (.getfield 10, 3) := by decide +kernel
theorem d_Li_exchangeFirstTwo_17 : decode prog_6_method_7_code 17 = .ok (.iconst 0, 1) := by decide +kernel
theorem d_Li_exchangeFirstTwo_18 : decode prog_6_method_7_code 18 = .ok (.invokevirtual 32, 3) := by decide +kernel
theorem d_Li_exchangeFirstTwo_21 : decode prog_6_method_7_code 21 = .ok (.checkcast 36, 3) := by decide +kernel
theorem d_Li_exchangeFirstTwo_24 : decode prog_6_method_7_code 24 = .ok (.astore_n 1, 1) := by decide +kernel
theorem d_Li_exchangeFirstTwo_25 : decode prog_6_method_7_code 25 = .ok (.aload_n 0, 1) := by decide +kernel
theorem d_Li_exchangeFirstTwo_26 : decode prog_6_method_7_code 26 = .ok (.getfield 10, 3) := by decide +kernel
theorem d_Li_exchangeFirstTwo_29 : decode prog_6_method_7_code 29 = .ok (.iconst 0, 1) := by decide +kernel
theorem d_Li_exchangeFirstTwo_30 : decode prog_6_method_7_code 30 = .ok (.aload_n 0, 1) := by decide +kernel
theorem d_Li_exchangeFirstTwo_31 : decode prog_6_method_7_code 31 = .ok (.getfield 10, 3) := by decide +kernel
theorem d_Li_exchangeFirstTwo_34 : decode prog_6_method_7_code 34 = .ok (.iconst 1, 1) := by decide +kernel
theorem d_Li_exchangeFirstTwo_35 : decode prog_6_method_7_code 35 = .ok (.invokevirtual 32, 3) := by decide +kernel
theorem d_Li_exchangeFirstTwo_38 : decode prog_6_method_7_code 38 = .ok (.checkcast 36, 3) := by decide +kernel
theorem d_Li_exchangeFirstTwo_41 : decode prog_6_method_7_code 41 = .ok (.invokevirtual 41, 3) := by decide +kernel
theorem d_Li_exchangeFirstTwo_44 : decode prog_6_method_7_code 44 = .ok (.pop, 1) := by decide +kernel
theorem d_Li_exchangeFirstTwo_45 : decode prog_6_method_7_code 45 = .ok (.aload_n 0, 1) := by decide +kernel
theorem d_Li_exchangeFirstTwo_46 : decode prog_6_method_7_code 46 = .ok (.getfield 10, 3) := by decide +kernel
theorem d_Li_exchangeFirstTwo_49 : decode prog_6_method_7_code 49 = .ok (.iconst 1, 1) := by decide +kernel
theorem d_Li_exchangeFirstTwo_50 : decode prog_6_method_7_code 50 = .ok (.aload_n 1, 1) := by decide +kernel
theorem d_Li_exchangeFirstTwo_51 : decode prog_6_method_7_code 51 = .ok (.invokevirtual 41, 3) := by decide +kernel
theorem d_Li_exchangeFirstTwo_54 : decode prog_6_method_7_code 54 = .ok (.pop, 1) := by decide +kernel
theorem d_Li_exchangeFirstTwo_55 : decode prog_6_method_7_code 55 = .ok (.iconst 1, 1) := by decide +kernel
theorem d_Li_exchangeFirstTwo_56 : decode prog_6_method_7_code 56 = .ok (.ireturn, 1) := by decide +kernel
theorem d_Me_init_0 : decode prog_7_method_1_code 0 = .ok (.aload_n 0, 1) := by decide +kernel
theorem d_Me_init_1 : decode prog_7_method_1_code 1 = .ok (.invokespecial 1, 3) := by decide +kernel
theorem d_Me_init_4 : decode prog_7_method_1_code 4 = .ok (.aload_n 0, 1) := by decide +kernel
theorem d_Me_init_5 : decode prog_7_method_1_code 5 = .ok (.getstatic 7, 3) := by decide +kernel
theorem d_Me_init_8 : decode prog_7_method_1_code 8 = .ok (.putfield 13, 3) := by decide +kernel
theorem d_Me_init_11 : decode prog_7_method_1_code 11 = .ok (.aload_n 0, 1) := by decide +kernel
theorem d_Me_init_12 : decode prog_7_method_1_code 12 = .ok (.aload_n 1, 1) := by decide +kernel
theorem d_Me_init_13 : decode prog_7_method_1_code 13 = .ok (.putfield 18, 3) := by decide +kernel
theorem d_Me_init_16 : decode prog_7_method_1_code 16 = .ok (.aload_n 0, 1) := by decide +kernel
theorem d_Me_init_17 : decode prog_7_method_1_code 17 = .ok (.aload_n 2, 1) := by decide +kernel
theorem d_Me_init_18 : decode prog_7_method_1_code 18 = .ok (.putfield 22, 3) := by decide +kernel
theorem d_Me_init_21 : decode prog_7_method_1_code 21 = .ok (.aload_n 0, 1) := by decide +kernel
theorem d_Me_init_22 : decode prog_7_method_1_code 22 = .ok (.aload_n 2, 1) := by decide +kernel
theorem d_Me_init_23 : decode prog_7_method_1_code 23 = .ok (.getfield 26, 3) := by decide +kernel
theorem d_Me_init_26 : decode prog_7_method_1_code 26 = .ok (.putfield 32, 3) := by decide +kernel
theorem d_Me_init_29 : decode prog_7_method_1_code 29 = .ok (.aload_n 0, 1) := by decide +kernel
theorem d_Me_init_30 : decode prog_7_method_1_code 30 = .ok (.iload_n 3, 1) := by decide +kernel
theorem d_Me_init_31 : decode prog_7_method_1_code 31 = .ok (.putfield 35, 3) := by decide +kernel
theorem d_Me_init_34 : decode prog_7_method_1_code 34 = .ok (.aload_n 0, 1) := by decide +kernel
theorem d_Me_init_35 : decode prog_7_method_1_code 35 = .ok (.iload_n 3, 1) := by decide +kernel
theorem d_Me_init_36 : decode prog_7_method_1_code 36 = .ok (.putfield 39, 3) := by decide +kernel
theorem d_Me_init_39 : decode prog_7_method_1_code 39 = .ok (.aload_n 0, 1) := by decide +kernel
theorem d_Me_init_40 : decode prog_7_method_1_code 40 = .ok (.aload_n 1, 1) := by decide +kernel
theorem d_Me_init_41 : decode prog_7_method_1_code 41 = .ok (.iconst 2, 1) := by decide +kernel
theorem d_Me_init_42 : decode prog_7_method_1_code 42 = .ok (.invokevirtual 44, 3) := by decide +kernel
theorem d_Me_init_45 : decode prog_7_method_1_code 45 = .ok (.putfield 48, 3) := by decide +kernel
theorem d_Me_init_48 : decode prog_7_method_1_code 48 = .ok (.aload_n 0, 1) := by decide +kernel
theorem d_Me_init_49 : decode prog_7_method_1_code 49 = .ok (.iload_n 3, 1) := by decide +kernel
theorem d_Me_init_50 : decode prog_7_method_1_code 50 = .ok (.iconst 5, 1) := by decide +kernel
theorem d_Me_init_51 : decode prog_7_method_1_code 51 = .ok (.aload_n 1, 1) := by decide +kernel
theorem d_Me_init_52 : decode prog_7_method_1_code 52 = .ok (.aload_n 1, 1) := by decide +kernel
theorem d_Me_init_53 : decode prog_7_method_1_code 53 = .ok (.invokevirtual 51, 3) := by decide +kernel
theorem d_Me_init_56 : decode prog_7_method_1_code 56 = .ok (.iconst 1, 1) := by decide +kernel
theorem d_Me_init_57 : decode prog_7_method_1_code 57 = .ok (.isub, 1) := by decide +kernel
theorem d_Me_init_58 : decode prog_7_method_1_code 58 = .ok (.invokevirtual 55, 3) := by decide +kernel
theorem d_Me_init_61 : decode prog_7_method_1_code 61 = .ok (.iconst 1, 1) := by decide +kernel
theorem d_Me_init_62 : decode prog_7_method_1_code 62 = .ok (.iadd, 1) := by decide +kernel
theorem d_Me_init_63 : decode prog_7_method_1_code 63 = .ok (.imul, 1) := by decide +kernel
theorem d_Me_init_64 : decode prog_7_method_1_code 64 = .ok (.iadd, 1) := by decide +kernel
theorem d_Me_init_65 : decode prog_7_method_1_code 65 = .ok (.putfield 59, 3) := by decide +kernel
theorem d_Me_init_68 : decode prog_7_method_1_code 68 = .ok (.return_, 1) := by decide +kernel
theorem d_Me_moment_0 : decode prog_7_method_2_code 0 = .ok (.aload_n 0, 1) := by decide +kernel
theorem d_Me_moment_1 : decode prog_7_method_2_code 1 = .ok (.getfield 39, 3) := by decide +kernel
theorem d_Me_moment_4 : decode prog_7_method_2_code 4 = .ok (.aload_n 0, 1) := by decide +kernel
theorem d_Me_moment_5 : decode prog_7_method_2_code 5 = .ok (.getfield 59, 3) := by decide +kernel
theorem d_Me_moment_8 : decode prog_7_method_2_code 8 = .ok (.invokestatic 62, 3) := by decide +kernel
theorem d_Me_moment_11 : decode prog_7_method_2_code 11 = .ok (.ireturn, 1) := by decide +kernel
theorem d_Me_putOff_0 : decode prog_7_method_3_code 0 = .ok (.aload_n 0, 1) := by decide +kernel
theorem d_Me_putOff_1 : decode prog_7_method_3_code 1 = .ok (.getfield 68, 3) := by decide +kernel
theorem d_Me_putOff_4 : decode prog_7_method_3_code 4 = .ok (.iconst 1, 1) := by decide +kernel
theorem d_Me_putOff_5 : decode prog_7_method_3_code 5 = .ok (.if_icmp .ne 13, 3) := by decide +kernel
theorem d_Me_putOff_8 : decode prog_7_method_3_code 8 = .ok (.aload_n 0, 1) := by decide +kernel
theorem d_Me_putOff_9 : decode prog_7_method_3_code 9 = .ok (.iload_n 1, 1) := by decide +kernel
theorem d_Me_putOff_10 : decode prog_7_method_3_code 10 = .ok (.iconst 1, 1) := by decide +kernel
theorem d_Me_putOff_11 : decode prog_7_method_3_code 11 = .ok (.iadd, 1) := by decide +kernel
theorem d_Me_putOff_12 : decode prog_7_method_3_code 12 = .ok (.putfield 39, 3) := by decide +kernel
theorem d_Me_putOff_15 : decode prog_7_method_3_code 15 = .ok (.goto 29, 3) := by decide +kernel
theorem d_Me_putOff_18 : decode prog_7_method_3_code 18 = .ok (.aload_n 0, 1) := by decide +kernel
theorem d_Me_putOff_19 : decode prog_7_method_3_code 19 = .ok (.getfield 68, 3) := by decide +kernel
theorem d_Me_putOff_22 : decode prog_7_method_3_code 22 = .ok (.iconst 2, 1) := by decide +kernel
theorem d_Me_putOff_23 : decode prog_7_method_3_code 23 = .ok (.if_icmp .ne 13, 3) := by decide +kernel
theorem d_Me_putOff_26 : decode prog_7_method_3_code 26 = .ok (.aload_n 0, 1) := by decide +kernel
theorem d_Me_putOff_27 : decode prog_7_method_3_code 27 = .ok (.iload_n 1, 1) := by decide +kernel
theorem d_Me_putOff_28 : decode prog_7_method_3_code 28 = .ok (.iconst 4, 1) := by decide +kernel
theorem d_Me_putOff_29 : decode prog_7_method_3_code 29 = .ok (.iadd, 1) := by decide +kernel
theorem d_Me_putOff_30 : decode prog_7_method_3_code 30 = .ok (.putfield 39, 3) := by decide +kernel
theorem d_Me_putOff_33 : decode prog_7_method_3_code 33 = .ok (.goto 11, 3) := by decide +kernel
theorem d_Me_putOff_36 : decode prog_7_method_3_code 36 = .ok (.aload_n 0, 1) := by decide +kernel
theorem d_Me_putOff_37 : decode prog_7_method_3_code 37 = .ok (.iload_n 1, 1) := by decide +kernel
theorem d_Me_putOff_38 : decode prog_7_method_3_code 38 = .ok (.bipush 16, 2) := by decide +kernel
theorem d_Me_putOff_40 : decode prog_7_method_3_code 40 = .ok (.iadd, 1) := by decide +kernel
theorem d_Me_putOff_41 : decode prog_7_method_3_code 41 = .ok (.putfield 39, 3) := by decide +kernel
theorem d_Me_putOff_44 : decode prog_7_method_3_code 44 = .ok (.return_, 1) := by decide +kernel
theorem d_Me_asDeliver_0 : decode prog_7_method_4_code 0 = .ok (.aload_n 0, 1) := by decide +kernel
theorem d_Me_asDeliver_1 : decode prog_7_method_4_code 1 = .ok (.getfield 18, 3) := by decide +kernel
theorem d_Me_asDeliver_4 : decode prog_7_method_4_code 4 = .ok (.invokevirtual 51, 3) := by decide +kernel
theorem d_Me_asDeliver_7 : decode prog_7_method_4_code 7 = .ok (.istore_n 1, 1) := by decide +kernel
theorem d_Me_asDeliver_8 : decode prog_7_method_4_code 8 = .ok (.new 42, 3) := by decide +kernel
theorem d_Me_asDeliver_11 : decode prog_7_method_4_code 11 = .ok (.dup, 1) := by decide +kernel
theorem d_Me_asDeliver_12 : decode prog_7_method_4_code 12 = .ok (.aload_n 0, 1) := by decide +kernel
theorem d_Me_asDeliver_13 : decode prog_7_method_4_code 13 = .ok (.getfield 32, 3) := by decide +kernel
theorem d_Me_asDeliver_16 : decode prog_7_method_4_code 16 = .ok (.aload_n 0, 1) := by decide +kernel
theorem d_Me_asDeliver_17 : decode prog_7_method_4_code 17 = .ok (.getfield 18, 3) := by decide +kernel
theorem d_Me_asDeliver_20 : decode prog_7_method_4_code 20 = .ok (.invokevirtual 71, 3) := by decide +kernel
theorem d_Me_asDeliver_23 : decode prog_7_method_4_code 23 = .ok (.iload_n 1, 1) := by decide +kernel
theorem d_Me_asDeliver_24 : decode prog_7_method_4_code 24 = .ok (.isub, 1) := by decide +kernel
theorem d_Me_asDeliver_25 : decode prog_7_method_4_code 25 = .ok (.invokestatic 74, 3) := by decide +kernel
theorem d_Me_asDeliver_28 : decode prog_7_method_4_code 28 = .ok (.aconst_null, 1) := by decide +kernel
theorem d_Me_asDeliver_29 : decode prog_7_method_4_code 29 = .ok (.invokespecial 78, 3) := by decide +kernel
theorem d_Me_asDeliver_32 : decode prog_7_method_4_code 32 = .ok (.astore_n 2, 1) := by decide +kernel
theorem d_Me_asDeliver_33 : decode prog_7_method_4_code 33 = .ok (.aload_n 2, 1) := by decide +kernel
theorem d_Me_asDeliver_34 : decode prog_7_method_4_code 34 = .ok (.iconst 4, 1) := by decide +kernel
theorem d_Me_asDeliver_35 : decode prog_7_method_4_code 35 = .ok (.aload_n 0, 1) := by decide +kernel
theorem d_Me_asDeliver_36 : decode prog_7_method_4_code 36 = .ok (.getfield 18, 3) := by decide +kernel
theorem d_Me_asDeliver_39 : decode prog_7_method_4_code 39 = .ok (.invokevirtual 81, 3) := by decide +kernel
theorem d_Me_asDeliver_42 : decode prog_7_method_4_code 42 = .ok (.ifCond .eq 8, 3) := by decide +kernel
theorem d_Me_asDeliver_45 : decode prog_7_method_4_code 45 = .ok (.bipush 64, 2) := by decide +kernel
theorem d_Me_asDeliver_47 : decode prog_7_method_4_code 47 = .ok (.goto 4, 3) := by decide +kernel
theorem d_Me_asDeliver_50 : decode prog_7_method_4_code 50 = .ok (.iconst 0, 1) := by decide +kernel
theorem d_Me_asDeliver_51 : decode prog_7_method_4_code 51 = .ok (.iadd, 1) := by decide +kernel
theorem d_Me_asDeliver_52 : decode prog_7_method_4_code 52 = .ok (.invokevirtual 85, 3) := by decide +kernel
theorem d_Me_asDeliver_55 : decode prog_7_method_4_code 55 = .ok (.aload_n 2, 1) := by decide +kernel
theorem d_Me_asDeliver_56 : decode prog_7_method_4_code 56 = .ok (.aload_n 0, 1) := by decide +kernel
theorem d_Me_asDeliver_57 : decode prog_7_method_4_code 57 = .ok (.getfield 32, 3) := by decide +kernel
theorem d_Me_asDeliver_60 : decode prog_7_method_4_code 60 = .ok (.invokevirtual 89, 3) := by decide +kernel
theorem d_Me_asDeliver_63 : decode prog_7_method_4_code 63 = .ok (.aload_n 2, 1) := by decide +kernel
theorem d_Me_asDeliver_64 : decode prog_7_method_4_code 64 = .ok (.iconst 0, 1) := by decide +kernel
theorem d_Me_asDeliver_65 : decode prog_7_method_4_code 65 = .ok (.invokevirtual 85, 3) := by decide +kernel
theorem d_Me_asDeliver_68 : decode prog_7_method_4_code 68 = .ok (.aload_n 2, 1) := by decide +kernel
theorem d_Me_asDeliver_69 : decode prog_7_method_4_code 69 = .ok (.iconst 0, 1) := by decide +kernel
theorem d_Me_asDeliver_70 : decode prog_7_method_4_code 70 = .ok (.invokevirtual 85, 3) := by decide +kernel
theorem d_Me_asDeliver_73 : decode prog_7_method_4_code 73 = .ok (.aload_n 2, 1) := by decide +kernel
theorem d_Me_asDeliver_74 : decode prog_7_method_4_code 74 = .ok (.aload_n 0, 1) := by decide +kernel
theorem d_Me_asDeliver_75 : decode prog_7_method_4_code 75 = .ok (.getfield 35, 3) := by decide +kernel
theorem d_Me_asDeliver_78 : decode prog_7_method_4_code 78 = .ok (.invokevirtual 93, 3) := by decide +kernel
theorem d_Me_asDeliver_81 : decode prog_7_method_4_code 81 = .ok (.aload_n 2, 1) := by decide +kernel
theorem d_Me_asDeliver_82 : decode prog_7_method_4_code 82 = .ok (.aload_n 0, 1) := by decide +kernel
theorem d_Me_asDeliver_83 : decode prog_7_method_4_code 83 = .ok (.getfield 18, 3) := by decide +kernel
theorem d_Me_asDeliver_86 : decode prog_7_method_4_code 86 = .ok (.iload_n 1, 1) := by decide +kernel
theorem d_Me_asDeliver_87 : decode prog_7_method_4_code 87 = .ok (.invokevirtual 96, 3) := by decide +kernel
theorem d_Me_asDeliver_90 : decode prog_7_method_4_code 90 = .ok (.aload_n 2, 1) := by decide +kernel
theorem d_Me_asDeliver_91 : decode prog_7_method_4_code 91 = .ok (.areturn, 1) := by decide +kernel
theorem d_Me_fileReport_0 : decode prog_7_method_5_code 0 = .ok (.aload_n 0, 1) := by decide +kernel
theorem d_Me_fileReport_1 : decode prog_7_method_5_code 1 = .ok (.getfield 18, 3) := by decide +kernel
theorem d_Me_fileReport_4 : decode prog_7_method_5_code 4 = .ok (.iconst 0, 1) := by decide +kernel
theorem d_Me_fileReport_5 : decode prog_7_method_5_code 5 = .ok (.invokevirtual 55, 3) := by decide +kernel
theorem d_Me_fileReport_8 : decode prog_7_method_5_code 8 = .ok (.bipush 32, 2) := by decide +kernel
theorem d_Me_fileReport_10 : decode prog_7_method_5_code 10 = .ok (.iand, 1) := by decide +kernel
theorem d_Me_fileReport_11 : decode prog_7_method_5_code 11 = .ok (.ifCond .eq 16, 3) := by decide +kernel
theorem d_Me_fileReport_14 : decode prog_7_method_5_code 14 = .ok (.aload_n 0, 1) := by decide +kernel
theorem d_Me_fileReport_15 : decode prog_7_method_5_code 15 = .ok (.getfield 22, 3) := by decide +kernel
theorem d_Me_fileReport_18 : decode prog_7_method_5_code 18 = .ok (.getfield 100, 3) := by decide +kernel
theorem d_Me_fileReport_21 : decode prog_7_method_5_code 21 = .ok (.invokevirtual 104, 3) := by decide +kernel
theorem d_Me_fileReport_24 : decode prog_7_method_5_code 24 = .ok (.ifCond .ne 4, 3) := by decide +kernel
theorem d_Me_fileReport_27 : decode prog_7_method_5_code 27 = .ok (.return_, 1) := by decide +kernel
theorem d_Me_fileReport_28 : decode prog_7_method_5_code 28 = .ok (.new 42, 3) := by decide +kernel
theorem d_Me_fileReport_31 : decode prog_7_method_5_code 31 = .ok (.dup, 1) := by decide +kernel
theorem d_Me_fileReport_32 : decode prog_7_method_5_code 32 = .ok (.aload_n 0, 1) := by decide +kernel
theorem d_Me_fileReport_33 : decode prog_7_method_5_code 33 = .ok (.getfield 48, 3) := by decide +kernel
theorem d_Me_fileReport_36 : decode prog_7_method_5_code 36 = .ok (.invokestatic 109, 3) := by decide +kernel
theorem d_Me_fileReport_39 : decode prog_7_method_5_code 39 = .ok (.aconst_null, 1) := by decide +kernel
theorem d_Me_fileReport_40 : decode prog_7_method_5_code 40 = .ok (.invokespecial 78, 3) := by decide +kernel
theorem d_Me_fileReport_43 : decode prog_7_method_5_code 43 = .ok (.astore_n 2, 1) := by decide +kernel
theorem d_Me_fileReport_44 : decode prog_7_method_5_code 44 = .ok (.aload_n 2, 1) := by decide +kernel
theorem d_Me_fileReport_45 : decode prog_7_method_5_code 45 = .ok (.iconst 2, 1) := by decide +kernel
theorem d_Me_fileReport_46 : decode prog_7_method_5_code 46 = .ok (.invokevirtual 85, 3) := by decide +kernel
theorem d_Me_fileReport_49 : decode prog_7_method_5_code 49 = .ok (.aload_n 2, 1) := by decide +kernel
theorem d_Me_fileReport_50 : decode prog_7_method_5_code 50 = .ok (.aload_n 0, 1) := by decide +kernel
theorem d_Me_fileReport_51 : decode prog_7_method_5_code 51 = .ok (.getfield 18, 3) := by decide +kernel
theorem d_Me_fileReport_54 : decode prog_7_method_5_code 54 = .ok (.iconst 1, 1) := by decide +kernel
theorem d_Me_fileReport_55 : decode prog_7_method_5_code 55 = .ok (.invokevirtual 55, 3) := by decide +kernel
theorem d_Me_fileReport_58 : decode prog_7_method_5_code 58 = .ok (.invokevirtual 85, 3) := by decide +kernel
theorem d_Me_fileReport_61 : decode prog_7_method_5_code 61 = .ok (.aload_n 2, 1) := by decide +kernel
theorem d_Me_fileReport_62 : decode prog_7_method_5_code 62 = .ok (.aload_n 0, 1) := by decide +kernel
theorem d_Me_fileReport_63 : decode prog_7_method_5_code 63 = .ok (.getfield 48, 3) := by decide +kernel
theorem d_Me_fileReport_66 : decode prog_7_method_5_code 66 = .ok (.invokevirtual 89, 3) := by decide +kernel
theorem d_Me_fileReport_69 : decode prog_7_method_5_code 69 = .ok (.aload_n 2, 1) := by decide +kernel
theorem d_Me_fileReport_70 : decode prog_7_method_5_code 70 = .ok (.aload_n 0, 1) := by decide +kernel
theorem d_Me_fileReport_71 : decode prog_7_method_5_code 71 = .ok (.getfield 35, 3) := by decide +kernel
theorem d_Me_fileReport_74 : decode prog_7_method_5_code 74 = .ok (.invokevirtual 93, 3) := by decide +kernel
theorem d_Me_fileReport_77 : decode prog_7_method_5_code 77 = .ok (.aload_n 2, 1) := by decide +kernel
theorem d_Me_fileReport_78 : decode prog_7_method_5_code 78 = .ok (.iload_n 1, 1) := by decide +kernel
theorem d_Me_fileReport_79 : decode prog_7_method_5_code 79 = .ok (.invokevirtual 93, 3) := by decide +kernel
theorem d_Me_fileReport_82 : decode prog_7_method_5_code 82 = .ok (.aload_n 2, 1) := by decide +kernel
theorem d_Me_fileReport_83 : decode prog_7_method_5_code 83 = .ok (.aload_n 0, 1) := by decide +kernel
theorem d_Me_fileReport_84 : decode prog_7_method_5_code 84 = .ok (.getfield 13, 3) := by decide +kernel
theorem d_Me_fileReport_87 : decode prog_7_method_5_code 87 = .ok (.getfield 113, 3) := by decide +kernel
theorem d_Me_fileReport_90 : decode prog_7_method_5_code 90 = .ok (.invokevirtual 85, 3) := by decide +kernel
theorem d_Me_fileReport_93 : decode prog_7_method_5_code 93 = .ok (.aload_n 0, 1) := by decide +kernel
theorem d_Me_fileReport_94 : decode prog_7_method_5_code 94 = .ok (.getfield 22, 3) := by decide +kernel
theorem d_Me_fileReport_97 : decode prog_7_method_5_code 97 = .ok (.getfield 100, 3) := by decide +kernel
theorem d_Me_fileReport_100 : decode prog_7_method_5_code 100 = .ok (.aload_n 2, 1) := by decide +kernel
theorem d_Me_fileReport_101 : decode prog_7_method_5_code 101 = .ok (.invokevirtual 116, 3) := by decide +kernel
theorem d_Me_fileReport_104 : decode prog_7_method_5_code 104 = .ok (.return_, 1) := by decide +kernel
theorem d_Pi_init_0 : decode prog_8_method_1_code 0 = .ok (.aload_n 0, 1) := by decide +kernel
theorem d_Pi_init_1 : decode prog_8_method_1_code 1 = .ok (.invokespecial 1, 3) := by decide +kernel
theorem d_Pi_init_4 : decode prog_8_method_1_code 4 = .ok (.aload_n 0, 1) := by decide +kernel
theorem d_Pi_init_5 : decode prog_8_method_1_code 5 = .ok (.lload_n 1, 1) := by decide +kernel
theorem d_Pi_init_6 : decode prog_8_method_1_code 6 = .ok (.putfield 7, 3) := by decide +kernel
theorem d_Pi_init_9 : decode prog_8_method_1_code 9 = .ok (.aload_n 0, 1) := by decide +kernel
theorem d_Pi_init_10 : decode prog_8_method_1_code 10 = .ok (.iload_n 3, 1) := by decide +kernel
theorem d_Pi_init_11 : decode prog_8_method_1_code 11 = .ok (.putfield 13, 3) := by decide +kernel
theorem d_Pi_init_14 : decode prog_8_method_1_code 14 = .ok (.aload_n 0, 1) := by decide +kernel
theorem d_Pi_init_15 : decode prog_8_method_1_code 15 = .ok (.iload 4, 2) := by decide +kernel
theorem d_Pi_init_17 : decode prog_8_method_1_code 17 = .ok (.anewarray 17, 3) := by decide +kernel
theorem d_Pi_init_20 : decode prog_8_method_1_code 20 = .ok (.putfield 19, 3) := by decide +kernel
theorem d_Pi_init_23 : decode prog_8_method_1_code 23 = .ok (.aload_n 0, 1) := by decide +kernel
theorem d_Pi_init_24 : decode prog_8_method_1_code 24 = .ok (.iload 4, 2) := by decide +kernel
theorem d_Pi_init_26 : decode prog_8_method_1_code 26 = .ok (.putfield 23, 3) := by decide +kernel
theorem d_Pi_init_29 : decode prog_8_method_1_code 29 = .ok (.return_, 1) := by decide +kernel
theorem d_Pi_gathers_0 : decode prog_8_method_2_code 0 = .ok (.aload_n 0, 1) := by decide +kernel
theorem d_Pi_gathers_1 : decode prog_8_method_2_code 1 = .ok (.getfield 7, 3) := by decide +kernel
theorem d_Pi_gathers_4 : decode prog_8_method_2_code 4 = .ok (.lload_n 1, 1) := by decide +kernel
theorem d_Pi_gathers_5 : decode prog_8_method_2_code 5 = .ok (.lcmp, 1) := by decide +kernel
theorem d_Pi_gathers_6 : decode prog_8_method_2_code 6 = .ok (.ifCond .ne 25, 3) := by decide +kernel
theorem d_Pi_gathers_9 : decode prog_8_method_2_code 9 = .ok (.aload_n 0, 1) := by decide +kernel
theorem d_Pi_gathers_10 : decode prog_8_method_2_code 10 = .ok (.getfield 13, 3) := by decide +kernel
theorem d_Pi_gathers_13 : decode prog_8_method_2_code 13 = .ok (.iload_n 3, 1) := by decide +kernel
theorem d_Pi_gathers_14 : decode prog_8_method_2_code 14 = .ok (.if_icmp .ne 17, 3) := by decide +kernel
theorem d_Pi_gathers_17 : decode prog_8_method_2_code 17 = .ok (.aload_n 0, 1) := by decide +kernel
theorem d_Pi_gathers_18 : decode prog_8_method_2_code 18 = .ok (.getfield 19, 3) := by decide +kernel
theorem d_Pi_gathers_21 : decode prog_8_method_2_code 21 = .ok (.arraylength, 1) := by decide +kernel
theorem d_Pi_gathers_22 : decode prog_8_method_2_code 22 = .ok (.iload 4, 2) := by decide +kernel
theorem d_Pi_gathers_24 : decode prog_8_method_2_code 24 = .ok (.if_icmp .ne 7, 3) := by decide +kernel
theorem d_Pi_gathers_27 : decode prog_8_method_2_code 27 = .ok (.iconst 1, 1) := by decide +kernel
theorem d_Pi_gathers_28 : decode prog_8_method_2_code 28 = .ok (.goto 4, 3) := by decide +kernel
theorem d_Pi_gathers_31 : decode prog_8_method_2_code 31 = .ok (.iconst 0, 1) := by decide +kernel
theorem d_Pi_gathers_32 : decode prog_8_method_2_code 32 = .ok (.ireturn, 1) := by decide +kernel
theorem d_Pi_keep_0 : decode prog_8_method_3_code 0 = .ok (.iload_n 1, 1) := by decide +kernel
theorem d_Pi_keep_1 : decode prog_8_method_3_code 1 = .ok (.iconst 1, 1) := by decide +kernel
theorem d_Pi_keep_2 : decode prog_8_method_3_code 2 = .ok (.isub, 1) := by decide +kernel
theorem d_Pi_keep_3 : decode prog_8_method_3_code 3 = .ok (.istore_n 3, 1) := by decide +kernel
theorem d_Pi_keep_4 : decode prog_8_method_3_code 4 = .ok (.iload_n 3, 1) := by decide +kernel
theorem d_Pi_keep_5 : decode prog_8_method_3_code 5 = .ok (.ifCond .lt 38, 3) := by decide +kernel
theorem d_Pi_keep_8 : decode prog_8_method_3_code 8 = .ok (.iload_n 3, 1) := by decide +kernel
theorem d_Pi_keep_9 : decode prog_8_method_3_code 9 = .ok (.aload_n 0, 1) := by decide +kernel
theorem d_Pi_keep_10 : decode prog_8_method_3_code 10 = .ok (.getfield 19, 3) := by decide +kernel
theorem d_Pi_keep_13 : decode prog_8_method_3_code 13 = .ok (.arraylength, 1) := by decide +kernel
theorem d_Pi_keep_14 : decode prog_8_method_3_code 14 = .ok (.if_icmp .ge 29, 3) := by decide +kernel
theorem d_Pi_keep_17 : decode prog_8_method_3_code 17 = .ok (.aload_n 0, 1) := by decide +kernel
theorem d_Pi_keep_18 : decode prog_8_method_3_code 18 = .ok (.getfield 19, 3) := by decide +kernel
theorem d_Pi_keep_21 : decode prog_8_method_3_code 21 = .ok (.iload_n 3, 1) := by decide +kernel
theorem d_Pi_keep_22 : decode prog_8_method_3_code 22 = .ok (.aaload, 1) := by decide +kernel
theorem d_Pi_keep_23 : decode prog_8_method_3_code 23 = .ok (.ifnonnull 20, 3) := by decide +kernel
theorem d_Pi_keep_26 : decode prog_8_method_3_code 26 = .ok (.aload_n 0, 1) := by decide +kernel
theorem d_Pi_keep_27 : decode prog_8_method_3_code 27 = .ok (.getfield 19, 3) := by decide +kernel
theorem d_Pi_keep_30 : decode prog_8_method_3_code 30 = .ok (.iload_n 3, 1) := by decide +kernel
theorem d_Pi_keep_31 : decode prog_8_method_3_code 31 = .ok (.aload_n 2, 1) := by decide +kernel
theorem d_Pi_keep_32 : decode prog_8_method_3_code 32 = .ok (.aastore, 1) := by decide +kernel
theorem d_Pi_keep_33 : decode prog_8_method_3_code 33 = .ok (.aload_n 0, 1) := by decide +kernel
theorem d_Pi_keep_34 : decode prog_8_method_3_code 34 = .ok (.dup, 1) := by decide +kernel
theorem d_Pi_keep_35 : decode prog_8_method_3_code 35 = .ok (.getfield 23, 3) := by decide +kernel
theorem d_Pi_keep_38 : decode prog_8_method_3_code 38 = .ok (.iconst 1, 1) := by decide +kernel
theorem d_Pi_keep_39 : decode prog_8_method_3_code 39 = .ok (.isub, 1) := by decide +kernel
theorem d_Pi_keep_40 : decode prog_8_method_3_code 40 = .ok (.putfield 23, 3) := by decide +kernel
theorem d_Pi_keep_43 : decode prog_8_method_3_code 43 = .ok (.return_, 1) := by decide +kernel
theorem d_Pi_lacking_0 : decode prog_8_method_4_code 0 = .ok (.aload_n 0, 1) := by decide +kernel
theorem d_Pi_lacking_1 : decode prog_8_method_4_code 1 = .ok (.getfield 23, 3) := by decide +kernel
theorem d_Pi_lacking_4 : decode prog_8_method_4_code 4 = .ok (.ireturn, 1) := by decide +kernel
theorem d_Pi_readText_0 : decode prog_8_method_5_code 0 = .ok (.iconst 0, 1) := by decide +kernel
theorem d_Pi_readText_1 : decode prog_8_method_5_code 1 = .ok (.istore_n 2, 1) := by decide +kernel
theorem d_Pi_readText_2 : decode prog_8_method_5_code 2 = .ok (.iconst 0, 1) := by decide +kernel
theorem d_Pi_readText_3 : decode prog_8_method_5_code 3 = .ok (.istore_n 3, 1) := by decide +kernel
theorem d_Pi_readText_4 : decode prog_8_method_5_code 4 = .ok (.iload_n 3, 1) := by decide +kernel
theorem d_Pi_readText_5 : decode prog_8_method_5_code 5 = .ok (.aload_n 0, 1) := by decide +kernel
theorem d_Pi_readText_6 : decode prog_8_method_5_code 6 = .ok (.getfield 19, 3) := by decide +kernel
theorem d_Pi_readText_9 : decode prog_8_method_5_code 9 = .ok (.arraylength, 1) := by decide +kernel
theorem d_Pi_readText_10 : decode prog_8_method_5_code 10 = .ok (.if_icmp .ge 30, 3) := by decide +kernel
theorem d_Pi_readText_13 : decode prog_8_method_5_code 13 = .ok (.aload_n 0, 1) := by decide +kernel
theorem d_Pi_readText_14 : decode prog_8_method_5_code 14 = .ok (.getfield 19, 3) := by decide +kernel
theorem d_Pi_readText_17 : decode prog_8_method_5_code 17 = .ok (.iload_n 3, 1) := by decide +kernel
theorem d_Pi_readText_18 : decode prog_8_method_5_code 18 = .ok (.aaload, 1) := by decide +kernel
theorem d_Pi_readText_19 : decode prog_8_method_5_code 19 = .ok (.ifnull 15, 3) := by decide +kernel
theorem d_Pi_readText_22 : decode prog_8_method_5_code 22 = .ok (.aload_n 0, 1) := by decide +kernel
theorem d_Pi_readText_23 : decode prog_8_method_5_code 23 = .ok (.getfield 19, 3) := by decide +kernel
theorem d_Pi_readText_26 : decode prog_8_method_5_code 26 = .ok (.iload_n 3, 1) := by decide +kernel
theorem d_Pi_readText_27 : decode prog_8_method_5_code 27 = .ok (.aaload, 1) := by decide +kernel
theorem d_Pi_readText_28 : decode prog_8_method_5_code 28 = .ok (.aload_n 1, 1) := by decide +kernel
theorem d_Pi_readText_29 : decode prog_8_method_5_code 29 = .ok (.iload_n 2, 1) := by decide +kernel
theorem d_Pi_readText_30 : decode prog_8_method_5_code 30 = .ok (.invokevirtual 26, 3) := by decide +kernel
theorem d_Pi_readText_33 : decode prog_8_method_5_code 33 = .ok (.istore_n 2, 1) := by decide +kernel
theorem d_Pi_readText_34 : decode prog_8_method_5_code 34 = .ok (.iinc 3 1, 3) := by decide +kernel
theorem d_Pi_readText_37 : decode prog_8_method_5_code 37 = .ok (.goto (-33), 3) := by decide +kernel
theorem d_Pi_readText_40 : decode prog_8_method_5_code 40 = .ok (.iload_n 2, 1) := by decide +kernel
theorem d_Pi_readText_41 : decode prog_8_method_5_code 41 = .ok (.ireturn, 1) := by decide +kernel
theorem d_Ro_init_0 : decode prog_9_method_1_code 0 = .ok (.aload_n 0, 1) := by decide +kernel
theorem d_Ro_init_1 : decode prog_9_method_1_code 1 = .ok (.invokespecial 1, 3) := by decide +kernel
theorem d_Ro_init_4 : decode prog_9_method_1_code 4 = .ok (.aload_n 0, 1) := by decide +kernel
theorem d_Ro_init_5 : decode prog_9_method_1_code 5 = .ok (.iload_n 1, 1) := by decide +kernel
theorem d_Ro_init_6 : decode prog_9_method_1_code 6 = .ok (.newarray .int, 2) := by decide +kernel
theorem d_Ro_init_8 : decode prog_9_method_1_code 8 = .ok (.putfield 7, 3) := by decide +kernel
theorem d_Ro_init_11 : decode prog_9_method_1_code 11 = .ok (.aload_n 0, 1) := by decide +kernel
theorem d_Ro_init_12 : decode prog_9_method_1_code 12 = .ok (.aload_n 2, 1) := by decide +kernel
theorem d_Ro_init_13 : decode prog_9_method_1_code 13 = .ok (.putfield 13, 3) := by decide +kernel
theorem d_Ro_init_16 : decode prog_9_method_1_code 16 = .ok (.return_, 1) := by decide +kernel
theorem d_Ro_digitsOf_0 : decode prog_9_method_2_code 0 = .ok (.iconst 1, 1) := by decide +kernel
theorem d_Ro_digitsOf_1 : decode prog_9_method_2_code 1 = .ok (.istore_n 2, 1) := by decide +kernel
theorem d_Ro_digitsOf_2 : decode prog_9_method_2_code 2 = .ok (.lload_n 0, 1) := by decide +kernel
theorem d_Ro_digitsOf_3 : decode prog_9_method_2_code 3 = .ok (.ldc2_w 17, 3) := by decide +kernel
theorem d_Ro_digitsOf_6 : decode prog_9_method_2_code 6 = .ok (.ldiv, 1) := by decide +kernel
theorem d_Ro_digitsOf_7 : decode prog_9_method_2_code 7 = .ok (.lstore_n 3, 1) := by decide +kernel
theorem d_Ro_digitsOf_8 : decode prog_9_method_2_code 8 = .ok (.lload_n 3, 1) := by decide +kernel
theorem d_Ro_digitsOf_9 : decode prog_9_method_2_code 9 = .ok (.lconst 0, 1) := by decide +kernel
theorem d_Ro_digitsOf_10 : decode prog_9_method_2_code 10 = .ok (.lcmp, 1) := by decide +kernel
theorem d_Ro_digitsOf_11 : decode prog_9_method_2_code 11 = .ok (.ifCond .le 21, 3) := by decide +kernel
theorem d_Ro_digitsOf_14 : decode prog_9_method_2_code 14 = .ok (.iload_n 2, 1) := by decide +kernel
theorem d_Ro_digitsOf_15 : decode prog_9_method_2_code 15 = .ok (.bipush 12, 2) := by decide +kernel
theorem d_Ro_digitsOf_17 : decode prog_9_method_2_code 17 = .ok (.if_icmp .ge 15, 3) := by decide +kernel
theorem d_Ro_digitsOf_20 : decode prog_9_method_2_code 20 = .ok (.lload_n 3, 1) := by decide +kernel
theorem d_Ro_digitsOf_21 : decode prog_9_method_2_code 21 = .ok (.ldc2_w 17, 3) := by decide +kernel
theorem d_Ro_digitsOf_24 : decode prog_9_method_2_code 24 = .ok (.ldiv, 1) := by decide +kernel
theorem d_Ro_digitsOf_25 : decode prog_9_method_2_code 25 = .ok (.lstore_n 3, 1) := by decide +kernel
theorem d_Ro_digitsOf_26 : decode prog_9_method_2_code 26 = .ok (.iinc 2 1, 3) := by decide +kernel
theorem d_Ro_digitsOf_29 : decode prog_9_method_2_code 29 = .ok (.goto (-21), 3) := by decide +kernel
theorem d_Ro_digitsOf_32 : decode prog_9_method_2_code 32 = .ok (.iload_n 2, 1) := by decide +kernel
theorem d_Ro_digitsOf_33 : decode prog_9_method_2_code 33 = .ok (.ireturn, 1) := by decide +kernel
theorem d_Ro_addressSize_0 : decode prog_9_method_3_code 0 = .ok (.iconst 2, 1) := by decide +kernel
theorem d_Ro_addressSize_1 : decode prog_9_method_3_code 1 = .ok (.iload_n 0, 1) := by decide +kernel
theorem d_Ro_addressSize_2 : decode prog_9_method_3_code 2 = .ok (.iconst 1, 1) := by decide +kernel
theorem d_Ro_addressSize_3 : decode prog_9_method_3_code 3 = .ok (.iadd, 1) := by decide +kernel
theorem d_Ro_addressSize_4 : decode prog_9_method_3_code 4 = .ok (.iconst 2, 1) := by decide +kernel
theorem d_Ro_addressSize_5 : decode prog_9_method_3_code 5 = .ok (.idiv, 1) := by decide +kernel
theorem d_Ro_addressSize_6 : decode prog_9_method_3_code 6 = .ok (.iadd, 1) := by decide +kernel
theorem d_Ro_addressSize_7 : decode prog_9_method_3_code 7 = .ok (.ireturn, 1) := by decide +kernel
theorem d_Ro_dataSize_0 : decode prog_9_method_4_code 0 = .ok (.iconst 1, 1) := by decide +kernel
theorem d_Ro_dataSize_1 : decode prog_9_method_4_code 1 = .ok (.bipush 7, 2) := by decide +kernel
theorem d_Ro_dataSize_3 : decode prog_9_method_4_code 3 = .ok (.iload_n 0, 1) := by decide +kernel
theorem d_Ro_dataSize_4 : decode prog_9_method_4_code 4 = .ok (.imul, 1) := by decide +kernel
theorem d_Ro_dataSize_5 : decode prog_9_method_4_code 5 = .ok (.bipush 7, 2) := by decide +kernel
theorem d_Ro_dataSize_7 : decode prog_9_method_4_code 7 = .ok (.iadd, 1) := by decide +kernel
theorem d_Ro_dataSize_8 : decode prog_9_method_4_code 8 = .ok (.bipush 8, 2) := by decide +kernel
theorem d_Ro_dataSize_10 : decode prog_9_method_4_code 10 = .ok (.idiv, 1) := by decide +kernel
theorem d_Ro_dataSize_11 : decode prog_9_method_4_code 11 = .ok (.iadd, 1) := by decide +kernel
theorem d_Ro_dataSize_12 : decode prog_9_method_4_code 12 = .ok (.ireturn, 1) := by decide +kernel
theorem d_Ro_submitSize_0 : decode prog_9_method_5_code 0 = .ok (.iconst 2, 1) := by decide +kernel
theorem d_Ro_submitSize_1 : decode prog_9_method_5_code 1 = .ok (.lload_n 0, 1) := by decide +kernel
theorem d_Ro_submitSize_2 : decode prog_9_method_5_code 2 = .ok (.invokestatic 19, 3) := by decide +kernel
theorem d_Ro_submitSize_5 : decode prog_9_method_5_code 5 = .ok (.invokestatic 23, 3) := by decide +kernel
theorem d_Ro_submitSize_8 : decode prog_9_method_5_code 8 = .ok (.iadd, 1) := by decide +kernel
theorem d_Ro_submitSize_9 : decode prog_9_method_5_code 9 = .ok (.iconst 3, 1) := by decide +kernel
theorem d_Ro_submitSize_10 : decode prog_9_method_5_code 10 = .ok (.iadd, 1) := by decide +kernel
theorem d_Ro_submitSize_11 : decode prog_9_method_5_code 11 = .ok (.iload_n 2, 1) := by decide +kernel
theorem d_Ro_submitSize_12 : decode prog_9_method_5_code 12 = .ok (.invokestatic 27, 3) := by decide +kernel
theorem d_Ro_submitSize_15 : decode prog_9_method_5_code 15 = .ok (.iadd, 1) := by decide +kernel
theorem d_Ro_submitSize_16 : decode prog_9_method_5_code 16 = .ok (.ireturn, 1) := by decide +kernel
theorem d_Ro_deliverSize_0 : decode prog_9_method_6_code 0 = .ok (.iconst 1, 1) := by decide +kernel
theorem d_Ro_deliverSize_1 : decode prog_9_method_6_code 1 = .ok (.lload_n 0, 1) := by decide +kernel
theorem d_Ro_deliverSize_2 : decode prog_9_method_6_code 2 = .ok (.invokestatic 19, 3) := by decide +kernel
theorem d_Ro_deliverSize_5 : decode prog_9_method_6_code 5 = .ok (.invokestatic 23, 3) := by decide +kernel
theorem d_Ro_deliverSize_8 : decode prog_9_method_6_code 8 = .ok (.iadd, 1) := by decide +kernel
theorem d_Ro_deliverSize_9 : decode prog_9_method_6_code 9 = .ok (.iconst 2, 1) := by decide +kernel
theorem d_Ro_deliverSize_10 : decode prog_9_method_6_code 10 = .ok (.iadd, 1) := by decide +kernel
theorem d_Ro_deliverSize_11 : decode prog_9_method_6_code 11 = .ok (.bipush 7, 2) := by decide +kernel
theorem d_Ro_deliverSize_13 : decode prog_9_method_6_code 13 = .ok (.iadd, 1) := by decide +kernel
theorem d_Ro_deliverSize_14 : decode prog_9_method_6_code 14 = .ok (.iload_n 2, 1) := by decide +kernel
theorem d_Ro_deliverSize_15 : decode prog_9_method_6_code 15 = .ok (.iadd, 1) := by decide +kernel
theorem d_Ro_deliverSize_16 : decode prog_9_method_6_code 16 = .ok (.ireturn, 1) := by decide +kernel
theorem d_Ro_reportSize_0 : decode prog_9_method_7_code 0 = .ok (.iconst 2, 1) := by decide +kernel
theorem d_Ro_reportSize_1 : decode prog_9_method_7_code 1 = .ok (.lload_n 0, 1) := by decide +kernel
theorem d_Ro_reportSize_2 : decode prog_9_method_7_code 2 = .ok (.invokestatic 19, 3) := by decide +kernel
theorem d_Ro_reportSize_5 : decode prog_9_method_7_code 5 = .ok (.invokestatic 23, 3) := by decide +kernel
theorem d_Ro_reportSize_8 : decode prog_9_method_7_code 8 = .ok (.iadd, 1) := by decide +kernel
theorem d_Ro_reportSize_9 : decode prog_9_method_7_code 9 = .ok (.bipush 14, 2) := by decide +kernel
theorem d_Ro_reportSize_11 : decode prog_9_method_7_code 11 = .ok (.iadd, 1) := by decide +kernel
theorem d_Ro_reportSize_12 : decode prog_9_method_7_code 12 = .ok (.iconst 1, 1) := by decide +kernel
theorem d_Ro_reportSize_13 : decode prog_9_method_7_code 13 = .ok (.iadd, 1) := by decide +kernel
theorem d_Ro_reportSize_14 : decode prog_9_method_7_code 14 = .ok (.ireturn, 1) := by decide +kernel
theorem d_Ro_size_0 : decode prog_9_method_8_code 0 = .ok (.aload_n 0, 1) := by decide +kernel
theorem d_Ro_size_1 : decode prog_9_method_8_code 1 = .ok (.getfield 7, 3) := by decide +kernel
theorem d_Ro_size_4 : decode prog_9_method_8_code 4 = .ok (.arraylength, 1) := by decide +kernel
theorem d_Ro_size_5 : decode prog_9_method_8_code 5 = .ok (.ireturn, 1) := by decide +kernel
theorem d_Ro_has_0 : decode prog_9_method_9_code 0 = .ok (.iload_n 1, 1) := by decide +kernel
theorem d_Ro_has_1 : decode prog_9_method_9_code 1 = .ok (.ifCond .lt 16, 3) := by decide +kernel
theorem d_Ro_has_4 : decode prog_9_method_9_code 4 = .ok (.iload_n 1, 1) := by decide +kernel
theorem d_Ro_has_5 : decode prog_9_method_9_code 5 = .ok (.aload_n 0, 1) := by decide +kernel
theorem d_Ro_has_6 : decode prog_9_method_9_code 6 = .ok (.getfield 7, 3) := by decide +kernel
theorem d_Ro_has_9 : decode prog_9_method_9_code 9 = .ok (.arraylength, 1) := by decide +kernel
theorem d_Ro_has_10 : decode prog_9_method_9_code 10 = .ok (.if_icmp .ge 7, 3) := by decide +kernel
theorem d_Ro_has_13 : decode prog_9_method_9_code 13 = .ok (.iconst 1, 1) := by decide +kernel
theorem d_Ro_has_14 : decode prog_9_method_9_code 14 = .ok (.goto 4, 3) := by decide +kernel
theorem d_Ro_has_17 : decode prog_9_method_9_code 17 = .ok (.iconst 0, 1) := by decide +kernel
theorem d_Ro_has_18 : decode prog_9_method_9_code 18 = .ok (.ireturn, 1) := by decide +kernel
theorem d_Ro_at_0 : decode prog_9_method_10_code 0 = .ok (.aload_n 0, 1) := by decide +kernel
theorem d_Ro_at_1 : decode prog_9_method_10_code 1 = .ok (.iload_n 1, 1) := by decide +kernel
theorem d_Ro_at_2 : decode prog_9_method_10_code 2 = .ok (.invokevirtual 30, 3) := by decide +kernel
theorem d_Ro_at_5 : decode prog_9_method_10_code 5 = .ok (.ifCond .eq 12, 3) := by decide +kernel
theorem d_Ro_at_8 : decode prog_9_method_10_code 8 = .ok (.aload_n 0, 1) := by decide +kernel
theorem d_Ro_at_9 : decode prog_9_method_10_code 9 = .ok (.getfield 7, 3) := by decide +kernel
theorem d_Ro_at_12 : decode prog_9_method_10_code 12 = .ok (.iload_n 1, 1) := by decide +kernel
theorem d_Ro_at_13 : decode prog_9_method_10_code 13 = .ok (.iaload, 1) := by decide +kernel
theorem d_Ro_at_14 : decode prog_9_method_10_code 14 = .ok (.goto 4, 3) := by decide +kernel
theorem d_Ro_at_17 : decode prog_9_method_10_code 17 = .ok (.iconst (-1), 1) := by decide +kernel
theorem d_Ro_at_18 : decode prog_9_method_10_code 18 = .ok (.ireturn, 1) := by decide +kernel
theorem d_Ro_flip_0 : decode prog_9_method_11_code 0 = .ok (.aload_n 0, 1) := by decide +kernel
theorem d_Ro_flip_1 : decode prog_9_method_11_code 1 = .ok (.iload_n 1, 1) := by decide +kernel
theorem d_Ro_flip_2 : decode prog_9_method_11_code 2 = .ok (.invokevirtual 30, 3) := by decide +kernel
theorem d_Ro_flip_5 : decode prog_9_method_11_code 5 = .ok (.ifCond .eq 13, 3) := by decide +kernel
theorem d_Ro_flip_8 : decode prog_9_method_11_code 8 = .ok (.aload_n 0, 1) := by decide +kernel
theorem d_Ro_flip_9 : decode prog_9_method_11_code 9 = .ok (.getfield 7, 3) := by decide +kernel
theorem d_Ro_flip_12 : decode prog_9_method_11_code 12 = .ok (.iload_n 1, 1) := by decide +kernel
theorem d_Ro_flip_13 : decode prog_9_method_11_code 13 = .ok (.dup2, 1) := by decide +kernel
theorem d_Ro_flip_14 : decode prog_9_method_11_code 14 = .ok (.iaload, 1) := by decide +kernel
theorem d_Ro_flip_15 : decode prog_9_method_11_code 15 = .ok (.iload_n 2, 1) := by decide +kernel
theorem d_Ro_flip_16 : decode prog_9_method_11_code 16 = .ok (.ixor, 1) := by decide +kernel
theorem d_Ro_flip_17 : decode prog_9_method_11_code 17 = .ok (.iastore, 1) := by decide +kernel
theorem d_Ro_flip_18 : decode prog_9_method_11_code 18 = .ok (.return_, 1) := by decide +kernel
theorem d_Ro_put_0 : decode prog_9_method_12_code 0 = .ok (.aload_n 0, 1) := by decide +kernel
theorem d_Ro_put_1 : decode prog_9_method_12_code 1 = .ok (.aload_n 0, 1) := by decide +kernel
theorem d_Ro_put_2 : decode prog_9_method_12_code 2 = .ok (.getfield 34, 3) := by decide +kernel
theorem d_Ro_put_5 : decode prog_9_method_12_code 5 = .ok (.invokevirtual 30, 3) := by decide +kernel
theorem d_Ro_put_8 : decode prog_9_method_12_code 8 = .ok (.ifCond .eq 23, 3) := by decide +kernel
theorem d_Ro_put_11 : decode prog_9_method_12_code 11 = .ok (.aload_n 0, 1) := by decide +kernel
theorem d_Ro_put_12 : decode prog_9_method_12_code 12 = .ok (.getfield 7, 3) := by decide +kernel
theorem d_Ro_put_15 : decode prog_9_method_12_code 15 = .ok (.aload_n 0, 1) := by decide +kernel
theorem d_Ro_put_16 : decode prog_9_method_12_code 16 = .ok (.getfield 34, 3) := by decide +kernel
theorem d_Ro_put_19 : decode prog_9_method_12_code 19 = .ok (.iload_n 1, 1) := by decide +kernel
theorem d_Ro_put_20 : decode prog_9_method_12_code 20 = .ok (.iastore, 1) := by decide +kernel
theorem d_Ro_put_21 : decode prog_9_method_12_code 21 = .ok (.aload_n 0, 1) := by decide +kernel
theorem d_Ro_put_22 : decode prog_9_method_12_code 22 = .ok (.dup, 1) := by decide +kernel
theorem d_Ro_put_23 : decode prog_9_method_12_code 23 = .ok (.getfield 34, 3) := by decide +kernel
theorem d_Ro_put_26 : decode prog_9_method_12_code 26 = .ok (.iconst 1, 1) := by decide +kernel
theorem d_Ro_put_27 : decode prog_9_method_12_code 27 = .ok (.iadd, 1) := by decide +kernel
theorem d_Ro_put_28 : decode prog_9_method_12_code 28 = .ok (.putfield 34, 3) := by decide +kernel
theorem d_Ro_put_31 : decode prog_9_method_12_code 31 = .ok (.return_, 1) := by decide +kernel
theorem d_Ro_merge_0 : decode prog_9_method_13_code 0 = .ok (.aload_n 0, 1) := by decide +kernel
theorem d_Ro_merge_1 : decode prog_9_method_13_code 1 = .ok (.iload_n 1, 1) := by decide +kernel
theorem d_Ro_merge_2 : decode prog_9_method_13_code 2 = .ok (.invokevirtual 30, 3) := by decide +kernel
theorem d_Ro_merge_5 : decode prog_9_method_13_code 5 = .ok (.ifCond .eq 13, 3) := by decide +kernel
theorem d_Ro_merge_8 : decode prog_9_method_13_code 8 = .ok (.aload_n 0, 1) := by decide +kernel
theorem d_Ro_merge_9 : decode prog_9_method_13_code 9 = .ok (.getfield 7, 3) := by decide +kernel
theorem d_Ro_merge_12 : decode prog_9_method_13_code 12 = .ok (.iload_n 1, 1) := by decide +kernel
theorem d_Ro_merge_13 : decode prog_9_method_13_code 13 = .ok (.dup2, 1) := by decide +kernel
theorem d_Ro_merge_14 : decode prog_9_method_13_code 14 = .ok (.iaload, 1) := by decide +kernel
theorem d_Ro_merge_15 : decode prog_9_method_13_code 15 = .ok (.iload_n 2, 1) := by decide +kernel
theorem d_Ro_merge_16 : decode prog_9_method_13_code 16 = .ok (.ior, 1) := by decide +kernel
theorem d_Ro_merge_17 : decode prog_9_method_13_code 17 = .ok (.iastore, 1) := by decide +kernel
theorem d_Ro_merge_18 : decode prog_9_method_13_code 18 = .ok (.return_, 1) := by decide +kernel
theorem d_Ro_putDigits_0 : decode prog_9_method_14_code 0 = .ok (.aload_n 0, 1) := by decide +kernel
theorem d_Ro_putDigits_1 : decode prog_9_method_14_code 1 = .ok (.getfield 34, 3) := by decide +kernel
theorem d_Ro_putDigits_4 : decode prog_9_method_14_code 4 = .ok (.istore 4, 2) := by decide +kernel
theorem d_Ro_putDigits_6 : decode prog_9_method_14_code 6 = .ok (.iconst 0, 1) := by decide +kernel
theorem d_Ro_putDigits_7 : decode prog_9_method_14_code 7 = .ok (.istore 5, 2) := by decide +kernel
theorem d_Ro_putDigits_9 : decode prog_9_method_14_code 9 = .ok (.iload 5, 2) := by decide +kernel
theorem d_Ro_putDigits_11 : decode prog_9_method_14_code 11 = .ok (.iload_n 3, 1) := by decide +kernel
theorem d_Ro_putDigits_12 : decode prog_9_method_14_code 12 = .ok (.if_icmp .ge 28, 3) := by decide +kernel
theorem d_Ro_putDigits_15 : decode prog_9_method_14_code 15 = .ok (.aload_n 0, 1) := by decide +kernel
theorem d_Ro_putDigits_16 : decode prog_9_method_14_code 16 = .ok (.iload 5, 2) := by decide +kernel
theorem d_Ro_putDigits_18 : decode prog_9_method_14_code 18 = .ok (.iconst 1, 1) := by decide +kernel
theorem d_Ro_putDigits_19 : decode prog_9_method_14_code 19 = .ok (.iadd, 1) := by decide +kernel
theorem d_Ro_putDigits_20 : decode prog_9_method_14_code 20 = .ok (.iload_n 3, 1) := by decide +kernel
theorem d_Ro_putDigits_21 : decode prog_9_method_14_code 21 = .ok (.if_icmp .ge 7, 3) := by decide +kernel
theorem d_Ro_putDigits_24 : decode prog_9_method_14_code 24 = .ok (.iconst 0, 1) := by decide +kernel
theorem d_Ro_putDigits_25 : decode prog_9_method_14_code 25 = .ok (.goto 6, 3) := by decide +kernel
theorem d_Ro_putDigits_28 : decode prog_9_method_14_code 28 = .ok (.sipush 240, 3) := by decide +kernel
theorem d_Ro_putDigits_31 : decode prog_9_method_14_code 31 = .ok (.invokevirtual 38, 3) := by decide +kernel
theorem d_Ro_putDigits_34 : decode prog_9_method_14_code 34 = .ok (.iinc 5 2, 3) := by decide +kernel
theorem d_Ro_putDigits_37 : decode prog_9_method_14_code 37 = .ok (.goto (-28), 3) := by decide +kernel
theorem d_Ro_putDigits_40 : decode prog_9_method_14_code 40 = .ok (.lload_n 1, 1) := by decide +kernel
theorem d_Ro_putDigits_41 : decode prog_9_method_14_code 41 = .ok (.lstore 5, 2) := by decide +kernel
theorem d_Ro_putDigits_43 : decode prog_9_method_14_code 43 = .ok (.iload_n 3, 1) := by decide +kernel
theorem d_Ro_putDigits_44 : decode prog_9_method_14_code 44 = .ok (.iconst 1, 1) := by decide +kernel
theorem d_Ro_putDigits_45 : decode prog_9_method_14_code 45 = .ok (.isub, 1) := by decide +kernel
theorem d_Ro_putDigits_46 : decode prog_9_method_14_code 46 = .ok (.istore 7, 2) := by decide +kernel
theorem d_Ro_putDigits_48 : decode prog_9_method_14_code 48 = .ok (.iload 7, 2) := by decide +kernel
theorem d_Ro_putDigits_50 : decode prog_9_method_14_code 50 = .ok (.ifCond .lt 42, 3) := by decide +kernel
theorem d_Ro_putDigits_53 : decode prog_9_method_14_code 53 = .ok (.aload_n 0, 1) := by decide +kernel
theorem d_Ro_putDigits_54 : decode prog_9_method_14_code 54 = .ok (.iload 4, 2) := by decide +kernel
theorem d_Ro_putDigits_56 : decode prog_9_method_14_code 56 = .ok (.iload 7, 2) := by decide +kernel
theorem d_Ro_putDigits_58 : decode prog_9_method_14_code 58 = .ok (.iconst 2, 1) := by decide +kernel
theorem d_Ro_putDigits_59 : decode prog_9_method_14_code 59 = .ok (.idiv, 1) := by decide +kernel
theorem d_Ro_putDigits_60 : decode prog_9_method_14_code 60 = .ok (.iadd, 1) := by decide +kernel
theorem d_Ro_putDigits_61 : decode prog_9_method_14_code 61 = .ok (.lload 5, 2) := by decide +kernel
theorem d_Ro_putDigits_63 : decode prog_9_method_14_code 63 = .ok (.ldc2_w 17, 3) := by decide +kernel
theorem d_Ro_putDigits_66 : decode prog_9_method_14_code 66 = .ok (.lrem, 1) := by decide +kernel
theorem d_Ro_putDigits_67 : decode prog_9_method_14_code 67 = .ok (.l2i, 1) := by decide +kernel
theorem d_Ro_putDigits_68 : decode prog_9_method_14_code 68 = .ok (.iload 7, 2) := by decide +kernel
theorem d_Ro_putDigits_70 : decode prog_9_method_14_code 70 = .ok (.iconst 2, 1) := by decide +kernel
theorem d_Ro_putDigits_71 : decode prog_9_method_14_code 71 = .ok (.irem, 1) := by decide +kernel
theorem d_Ro_putDigits_72 : decode prog_9_method_14_code 72 = .ok (.iconst 4, 1) := by decide +kernel
theorem d_Ro_putDigits_73 : decode prog_9_method_14_code 73 = .ok (.imul, 1) := by decide +kernel
theorem d_Ro_putDigits_74 : decode prog_9_method_14_code 74 = .ok (.ishl, 1) := by decide +kernel
theorem d_Ro_putDigits_75 : decode prog_9_method_14_code 75 = .ok (.invokevirtual 42, 3) := by decide +kernel
theorem d_Ro_putDigits_78 : decode prog_9_method_14_code 78 = .ok (.lload 5, 2) := by decide +kernel
theorem d_Ro_putDigits_80 : decode prog_9_method_14_code 80 = .ok (.ldc2_w 17, 3) := by decide +kernel
theorem d_Ro_putDigits_83 : decode prog_9_method_14_code 83 = .ok (.ldiv, 1) := by decide +kernel
theorem d_Ro_putDigits_84 : decode prog_9_method_14_code 84 = .ok (.lstore 5, 2) := by decide +kernel
theorem d_Ro_putDigits_86 : decode prog_9_method_14_code 86 = .ok (.iinc 7 (-1), 3) := by decide +kernel
theorem d_Ro_putDigits_89 : decode prog_9_method_14_code 89 = .ok (.goto (-41), 3) := by decide +kernel
theorem d_Ro_putDigits_92 : decode prog_9_method_14_code 92 = .ok (.return_, 1) := by decide +kernel
theorem d_Ro_putAddress_0 : decode prog_9_method_15_code 0 = .ok (.lload_n 1, 1) := by decide +kernel
theorem d_Ro_putAddress_1 : decode prog_9_method_15_code 1 = .ok (.invokestatic 19, 3) := by decide +kernel
theorem d_Ro_putAddress_4 : decode prog_9_method_15_code 4 = .ok (.istore_n 3, 1) := by decide +kernel
theorem d_Ro_putAddress_5 : decode prog_9_method_15_code 5 = .ok (.aload_n 0, 1) := by decide +kernel
theorem d_Ro_putAddress_6 : decode prog_9_method_15_code 6 = .ok (.iload_n 3, 1) := by decide +kernel
theorem d_Ro_putAddress_7 : decode prog_9_method_15_code 7 = .ok (.invokevirtual 38, 3) := by decide +kernel
theorem d_Ro_putAddress_10 : decode prog_9_method_15_code 10 = .ok (.aload_n 0, 1) := by decide +kernel
theorem d_Ro_putAddress_11 : decode prog_9_method_15_code 11 = .ok (.sipush 145, 3) := by decide +kernel
theorem d_Ro_putAddress_14 : decode prog_9_method_15_code 14 = .ok (.invokevirtual 38, 3) := by decide +kernel
theorem d_Ro_putAddress_17 : decode prog_9_method_15_code 17 = .ok (.aload_n 0, 1) := by decide +kernel
theorem d_Ro_putAddress_18 : decode prog_9_method_15_code 18 = .ok (.lload_n 1, 1) := by decide +kernel
theorem d_Ro_putAddress_19 : decode prog_9_method_15_code 19 = .ok (.iload_n 3, 1) := by decide +kernel
theorem d_Ro_putAddress_20 : decode prog_9_method_15_code 20 = .ok (.invokevirtual 46, 3) := by decide +kernel
theorem d_Ro_putAddress_23 : decode prog_9_method_15_code 23 = .ok (.return_, 1) := by decide +kernel
theorem d_Ro_putTime_0 : decode prog_9_method_16_code 0 = .ok (.aload_n 0, 1) := by decide +kernel
theorem d_Ro_putTime_1 : decode prog_9_method_16_code 1 = .ok (.iload_n 1, 1) := by decide +kernel
theorem d_Ro_putTime_2 : decode prog_9_method_16_code 2 = .ok (.i2l, 1) := by decide +kernel
theorem d_Ro_putTime_3 : decode prog_9_method_16_code 3 = .ok (.bipush 14, 2) := by decide +kernel
theorem d_Ro_putTime_5 : decode prog_9_method_16_code 5 = .ok (.invokevirtual 46, 3) := by decide +kernel
theorem d_Ro_putTime_8 : decode prog_9_method_16_code 8 = .ok (.return_, 1) := by decide +kernel
theorem d_Ro_putSubmitHead_0 : decode prog_9_method_17_code 0 = .ok (.aload_n 0, 1) := by decide +kernel
theorem d_Ro_putSubmitHead_1 : decode prog_9_method_17_code 1 = .ok (.iload_n 1, 1) := by decide +kernel
theorem d_Ro_putSubmitHead_2 : decode prog_9_method_17_code 2 = .ok (.invokevirtual 38, 3) := by decide +kernel
theorem d_Ro_putSubmitHead_5 : decode prog_9_method_17_code 5 = .ok (.aload_n 0, 1) := by decide +kernel
theorem d_Ro_putSubmitHead_6 : decode prog_9_method_17_code 6 = .ok (.iload_n 2, 1) := by decide +kernel
theorem d_Ro_putSubmitHead_7 : decode prog_9_method_17_code 7 = .ok (.invokevirtual 38, 3) := by decide +kernel
theorem d_Ro_putSubmitHead_10 : decode prog_9_method_17_code 10 = .ok (.aload_n 0, 1) := by decide +kernel
theorem d_Ro_putSubmitHead_11 : decode prog_9_method_17_code 11 = .ok (.lload_n 3, 1) := by decide +kernel
theorem d_Ro_putSubmitHead_12 : decode prog_9_method_17_code 12 = .ok (.invokevirtual 50, 3) := by decide +kernel
theorem d_Ro_putSubmitHead_15 : decode prog_9_method_17_code 15 = .ok (.aload_n 0, 1) := by decide +kernel
theorem d_Ro_putSubmitHead_16 : decode prog_9_method_17_code 16 = .ok (.iconst 0, 1) := by decide +kernel
theorem d_Ro_putSubmitHead_17 : decode prog_9_method_17_code 17 = .ok (.invokevirtual 38, 3) := by decide +kernel
theorem d_Ro_putSubmitHead_20 : decode prog_9_method_17_code 20 = .ok (.aload_n 0, 1) := by decide +kernel
theorem d_Ro_putSubmitHead_21 : decode prog_9_method_17_code 21 = .ok (.iconst 0, 1) := by decide +kernel
theorem d_Ro_putSubmitHead_22 : decode prog_9_method_17_code 22 = .ok (.invokevirtual 38, 3) := by decide +kernel
theorem d_Ro_putSubmitHead_25 : decode prog_9_method_17_code 25 = .ok (.aload_n 0, 1) := by decide +kernel
theorem d_Ro_putSubmitHead_26 : decode prog_9_method_17_code 26 = .ok (.iload 5, 2) := by decide +kernel
theorem d_Ro_putSubmitHead_28 : decode prog_9_method_17_code 28 = .ok (.invokevirtual 38, 3) := by decide +kernel
theorem d_Ro_putSubmitHead_31 : decode prog_9_method_17_code 31 = .ok (.return_, 1) := by decide +kernel
theorem d_Ro_putHeader_0 : decode prog_9_method_18_code 0 = .ok (.aload_n 0, 1) := by decide +kernel
theorem d_Ro_putHeader_1 : decode prog_9_method_18_code 1 = .ok (.iconst 5, 1) := by decide +kernel
theorem d_Ro_putHeader_2 : decode prog_9_method_18_code 2 = .ok (.invokevirtual 38, 3) := by decide +kernel
theorem d_Ro_putHeader_5 : decode prog_9_method_18_code 5 = .ok (.aload_n 0, 1) := by decide +kernel
theorem d_Ro_putHeader_6 : decode prog_9_method_18_code 6 = .ok (.iconst 0, 1) := by decide +kernel
theorem d_Ro_putHeader_7 : decode prog_9_method_18_code 7 = .ok (.invokevirtual 38, 3) := by decide +kernel
theorem d_Ro_putHeader_10 : decode prog_9_method_18_code 10 = .ok (.aload_n 0, 1) := by decide +kernel
theorem d_Ro_putHeader_11 : decode prog_9_method_18_code 11 = .ok (.iconst 3, 1) := by decide +kernel
theorem d_Ro_putHeader_12 : decode prog_9_method_18_code 12 = .ok (.invokevirtual 38, 3) := by decide +kernel
theorem d_Ro_putHeader_15 : decode prog_9_method_18_code 15 = .ok (.aload_n 0, 1) := by decide +kernel
theorem d_Ro_putHeader_16 : decode prog_9_method_18_code 16 = .ok (.iload_n 1, 1) := by decide +kernel
theorem d_Ro_putHeader_17 : decode prog_9_method_18_code 17 = .ok (.invokevirtual 38, 3) := by decide +kernel
theorem d_Ro_putHeader_20 : decode prog_9_method_18_code 20 = .ok (.aload_n 0, 1) := by decide +kernel
theorem d_Ro_putHeader_21 : decode prog_9_method_18_code 21 = .ok (.iload_n 2, 1) := by decide +kernel
theorem d_Ro_putHeader_22 : decode prog_9_method_18_code 22 = .ok (.invokevirtual 38, 3) := by decide +kernel
theorem d_Ro_putHeader_25 : decode prog_9_method_18_code 25 = .ok (.aload_n 0, 1) := by decide +kernel
theorem d_Ro_putHeader_26 : decode prog_9_method_18_code 26 = .ok (.iload_n 3, 1) := by decide +kernel
theorem d_Ro_putHeader_27 : decode prog_9_method_18_code 27 = .ok (.invokevirtual 38, 3) := by decide +kernel
theorem d_Ro_putHeader_30 : decode prog_9_method_18_code 30 = .ok (.return_, 1) := by decide +kernel
theorem d_Ro_putRest_0 : decode prog_9_method_19_code 0 = .ok (.iload_n 2, 1) := by decide +kernel
theorem d_Ro_putRest_1 : decode prog_9_method_19_code 1 = .ok (.istore_n 3, 1) := by decide +kernel
theorem d_Ro_putRest_2 : decode prog_9_method_19_code 2 = .ok (.iload_n 3, 1) := by decide +kernel
theorem d_Ro_putRest_3 : decode prog_9_method_19_code 3 = .ok (.aload_n 1, 1) := by decide +kernel
theorem d_Ro_putRest_4 : decode prog_9_method_19_code 4 = .ok (.invokevirtual 54, 3) := by decide +kernel
theorem d_Ro_putRest_7 : decode prog_9_method_19_code 7 = .ok (.if_icmp .ge 18, 3) := by decide +kernel
theorem d_Ro_putRest_10 : decode prog_9_method_19_code 10 = .ok (.aload_n 0, 1) := by decide +kernel
theorem d_Ro_putRest_11 : decode prog_9_method_19_code 11 = .ok (.aload_n 1, 1) := by decide +kernel
theorem d_Ro_putRest_12 : decode prog_9_method_19_code 12 = .ok (.iload_n 3, 1) := by decide +kernel
theorem d_Ro_putRest_13 : decode prog_9_method_19_code 13 = .ok (.invokevirtual 58, 3) := by decide +kernel
theorem d_Ro_putRest_16 : decode prog_9_method_19_code 16 = .ok (.invokevirtual 38, 3) := by decide +kernel
theorem d_Ro_putRest_19 : decode prog_9_method_19_code 19 = .ok (.iinc 3 1, 3) := by decide +kernel
theorem d_Ro_putRest_22 : decode prog_9_method_19_code 22 = .ok (.goto (-20), 3) := by decide +kernel
theorem d_Ro_putRest_25 : decode prog_9_method_19_code 25 = .ok (.return_, 1) := by decide +kernel
theorem d_Ro_mergeSeptet_0 : decode prog_9_method_20_code 0 = .ok (.iload_n 1, 1) := by decide +kernel
theorem d_Ro_mergeSeptet_1 : decode prog_9_method_20_code 1 = .ok (.iload_n 2, 1) := by decide +kernel
theorem d_Ro_mergeSeptet_2 : decode prog_9_method_20_code 2 = .ok (.bipush 8, 2) := by decide +kernel
theorem d_Ro_mergeSeptet_4 : decode prog_9_method_20_code 4 = .ok (.idiv, 1) := by decide +kernel
theorem d_Ro_mergeSeptet_5 : decode prog_9_method_20_code 5 = .ok (.iadd, 1) := by decide +kernel
theorem d_Ro_mergeSeptet_6 : decode prog_9_method_20_code 6 = .ok (.istore 4, 2) := by decide +kernel
theorem d_Ro_mergeSeptet_8 : decode prog_9_method_20_code 8 = .ok (.iload_n 3, 1) := by decide +kernel
theorem d_Ro_mergeSeptet_9 : decode prog_9_method_20_code 9 = .ok (.iload_n 2, 1) := by decide +kernel
theorem d_Ro_mergeSeptet_10 : decode prog_9_method_20_code 10 = .ok (.bipush 8, 2) := by decide +kernel
theorem d_Ro_mergeSeptet_12 : decode prog_9_method_20_code 12 = .ok (.irem, 1) := by decide +kernel
theorem d_Ro_mergeSeptet_13 : decode prog_9_method_20_code 13 = .ok (.ishl, 1) := by decide +kernel
theorem d_Ro_mergeSeptet_14 : decode prog_9_method_20_code 14 = .ok (.istore 5, 2) := by decide +kernel
theorem d_Ro_mergeSeptet_16 : decode prog_9_method_20_code 16 = .ok (.aload_n 0, 1) := by decide +kernel
theorem d_Ro_mergeSeptet_17 : decode prog_9_method_20_code 17 = .ok (.iload 4, 2) := by decide +kernel
theorem d_Ro_mergeSeptet_19 : decode prog_9_method_20_code 19 = .ok (.iload 5, 2) := by decide +kernel
theorem d_Ro_mergeSeptet_21 : decode prog_9_method_20_code 21 = .ok (.sipush 255, 3) := by decide +kernel
theorem d_Ro_mergeSeptet_24 : decode prog_9_method_20_code 24 = .ok (.iand, 1) := by decide +kernel
theorem d_Ro_mergeSeptet_25 : decode prog_9_method_20_code 25 = .ok (.invokevirtual 42, 3) := by decide +kernel
theorem d_Ro_mergeSeptet_28 : decode prog_9_method_20_code 28 = .ok (.aload_n 0, 1) := by decide +kernel
theorem d_Ro_mergeSeptet_29 : decode prog_9_method_20_code 29 = .ok (.iload 4, 2) := by decide +kernel
theorem d_Ro_mergeSeptet_31 : decode prog_9_method_20_code 31 = .ok (.iconst 1, 1) := by decide +kernel
theorem d_Ro_mergeSeptet_32 : decode prog_9_method_20_code 32 = .ok (.iadd, 1) := by decide +kernel
theorem d_Ro_mergeSeptet_33 : decode prog_9_method_20_code 33 = .ok (.iload 5, 2) := by decide +kernel
theorem d_Ro_mergeSeptet_35 : decode prog_9_method_20_code 35 = .ok (.bipush 8, 2) := by decide +kernel
theorem d_Ro_mergeSeptet_37 : decode prog_9_method_20_code 37 = .ok (.ishr, 1) := by decide +kernel
theorem d_Ro_mergeSeptet_38 : decode prog_9_method_20_code 38 = .ok (.invokevirtual 42, 3) := by decide +kernel
theorem d_Ro_mergeSeptet_41 : decode prog_9_method_20_code 41 = .ok (.return_, 1) := by decide +kernel
theorem d_Ro_septetAt_0 : decode prog_9_method_21_code 0 = .ok (.iload_n 1, 1) := by decide +kernel
theorem d_Ro_septetAt_1 : decode prog_9_method_21_code 1 = .ok (.iload_n 2, 1) := by decide +kernel
theorem d_Ro_septetAt_2 : decode prog_9_method_21_code 2 = .ok (.bipush 8, 2) := by decide +kernel
theorem d_Ro_septetAt_4 : decode prog_9_method_21_code 4 = .ok (.idiv, 1) := by decide +kernel
theorem d_Ro_septetAt_5 : decode prog_9_method_21_code 5 = .ok (.iadd, 1) := by decide +kernel
theorem d_Ro_septetAt_6 : decode prog_9_method_21_code 6 = .ok (.istore_n 3, 1) := by decide +kernel
theorem d_Ro_septetAt_7 : decode prog_9_method_21_code 7 = .ok (.aload_n 0, 1) := by decide +kernel
theorem d_Ro_septetAt_8 : decode prog_9_method_21_code 8 = .ok (.iload_n 3, 1) := by decide +kernel
theorem d_Ro_septetAt_9 : decode prog_9_method_21_code 9 = .ok (.invokevirtual 30, 3) := by decide +kernel
theorem d_Ro_septetAt_12 : decode prog_9_method_21_code 12 = .ok (.ifCond .eq 12, 3) := by decide +kernel
theorem d_Ro_septetAt_15 : decode prog_9_method_21_code 15 = .ok (.aload_n 0, 1) := by decide +kernel
theorem d_Ro_septetAt_16 : decode prog_9_method_21_code 16 = .ok (.getfield 7, 3) := by decide +kernel
theorem d_Ro_septetAt_19 : decode prog_9_method_21_code 19 = .ok (.iload_n 3, 1) := by decide +kernel
theorem d_Ro_septetAt_20 : decode prog_9_method_21_code 20 = .ok (.iaload, 1) := by decide +kernel
theorem d_Ro_septetAt_21 : decode prog_9_method_21_code 21 = .ok (.goto 4, 3) := by decide +kernel
theorem d_Ro_septetAt_24 : decode prog_9_method_21_code 24 = .ok (.iconst 0, 1) := by decide +kernel
theorem d_Ro_septetAt_25 : decode prog_9_method_21_code 25 = .ok (.istore 4, 2) := by decide +kernel
theorem d_Ro_septetAt_27 : decode prog_9_method_21_code 27 = .ok (.aload_n 0, 1) := by decide +kernel
theorem d_Ro_septetAt_28 : decode prog_9_method_21_code 28 = .ok (.iload_n 3, 1) := by decide +kernel
theorem d_Ro_septetAt_29 : decode prog_9_method_21_code 29 = .ok (.iconst 1, 1) := by decide +kernel
theorem d_Ro_septetAt_30 : decode prog_9_method_21_code 30 = .ok (.iadd, 1) := by decide +kernel
theorem d_Ro_septetAt_31 : decode prog_9_method_21_code 31 = .ok (.invokevirtual 30, 3) := by decide +kernel
theorem d_Ro_septetAt_34 : decode prog_9_method_21_code 34 = .ok (.ifCond .eq 14, 3) := by decide +kernel
theorem d_Ro_septetAt_37 : decode prog_9_method_21_code 37 = .ok (.aload_n 0, 1) := by decide +kernel
theorem d_Ro_septetAt_38 : decode prog_9_method_21_code 38 = .ok (.getfield 7, 3) := by decide +kernel
theorem d_Ro_septetAt_41 : decode prog_9_method_21_code 41 = .ok (.iload_n 3, 1) := by decide +kernel
theorem d_Ro_septetAt_42 : decode prog_9_method_21_code 42 = .ok (.iconst 1, 1) := by decide +kernel
theorem d_Ro_septetAt_43 : decode prog_9_method_21_code 43 = .ok (.iadd, 1) := by decide +kernel
theorem d_Ro_septetAt_44 : decode prog_9_method_21_code 44 = .ok (.iaload, 1) := by decide +kernel
theorem d_Ro_septetAt_45 : decode prog_9_method_21_code 45 = .ok (.goto 4, 3) := by decide +kernel
theorem d_Ro_septetAt_48 : decode prog_9_method_21_code 48 = .ok (.iconst 0, 1) := by decide +kernel
theorem d_Ro_septetAt_49 : decode prog_9_method_21_code 49 = .ok (.istore 5, 2) := by decide +kernel
theorem d_Ro_septetAt_51 : decode prog_9_method_21_code 51 = .ok (.iload 5, 2) := by decide +kernel
theorem d_Ro_septetAt_53 : decode prog_9_method_21_code 53 = .ok (.bipush 8, 2) := by decide +kernel
theorem d_Ro_septetAt_55 : decode prog_9_method_21_code 55 = .ok (.ishl, 1) := by decide +kernel
theorem d_Ro_septetAt_56 : decode prog_9_method_21_code 56 = .ok (.iload 4, 2) := by decide +kernel
theorem d_Ro_septetAt_58 : decode prog_9_method_21_code 58 = .ok (.ior, 1) := by decide +kernel
theorem d_Ro_septetAt_59 : decode prog_9_method_21_code 59 = .ok (.iload_n 2, 1) := by decide +kernel
theorem d_Ro_septetAt_60 : decode prog_9_method_21_code 60 = .ok (.bipush 8, 2) := by decide +kernel
theorem d_Ro_septetAt_62 : decode prog_9_method_21_code 62 = .ok (.irem, 1) := by decide +kernel
theorem d_Ro_septetAt_63 : decode prog_9_method_21_code 63 = .ok (.ishr, 1) := by decide +kernel
theorem d_Ro_septetAt_64 : decode prog_9_method_21_code 64 = .ok (.bipush 127, 2) := by decide +kernel
theorem d_Ro_septetAt_66 : decode prog_9_method_21_code 66 = .ok (.iand, 1) := by decide +kernel
theorem d_Ro_septetAt_67 : decode prog_9_method_21_code 67 = .ok (.ireturn, 1) := by decide +kernel
theorem d_Ro_digitAt_0 : decode prog_9_method_22_code 0 = .ok (.aload_n 0, 1) := by decide +kernel
theorem d_Ro_digitAt_1 : decode prog_9_method_22_code 1 = .ok (.iload_n 1, 1) := by decide +kernel
theorem d_Ro_digitAt_2 : decode prog_9_method_22_code 2 = .ok (.iload_n 2, 1) := by decide +kernel
theorem d_Ro_digitAt_3 : decode prog_9_method_22_code 3 = .ok (.iconst 2, 1) := by decide +kernel
theorem d_Ro_digitAt_4 : decode prog_9_method_22_code 4 = .ok (.idiv, 1) := by decide +kernel
theorem d_Ro_digitAt_5 : decode prog_9_method_22_code 5 = .ok (.iadd, 1) := by decide +kernel
theorem d_Ro_digitAt_6 : decode prog_9_method_22_code 6 = .ok (.invokevirtual 58, 3) := by decide +kernel
theorem d_Ro_digitAt_9 : decode prog_9_method_22_code 9 = .ok (.istore_n 3, 1) := by decide +kernel
theorem d_Ro_digitAt_10 : decode prog_9_method_22_code 10 = .ok (.iload_n 3, 1) := by decide +kernel
theorem d_Ro_digitAt_11 : decode prog_9_method_22_code 11 = .ok (.ifCond .ge 5, 3) := by decide +kernel
theorem d_Ro_digitAt_14 : decode prog_9_method_22_code 14 = .ok (.iconst (-1), 1) := by decide +kernel
theorem d_Ro_digitAt_15 : decode prog_9_method_22_code 15 = .ok (.ireturn, 1) := by decide +kernel
theorem d_Ro_digitAt_16 : decode prog_9_method_22_code 16 = .ok (.iload_n 2, 1) := by decide +kernel
theorem d_Ro_digitAt_17 : decode prog_9_method_22_code 17 = .ok (.iconst 2, 1) := by decide +kernel
theorem d_Ro_digitAt_18 : decode prog_9_method_22_code 18 = .ok (.irem, 1) := by decide +kernel
theorem d_Ro_digitAt_19 : decode prog_9_method_22_code 19 = .ok (.ifCond .ne 10, 3) := by decide +kernel
theorem d_Ro_digitAt_22 : decode prog_9_method_22_code 22 = .ok (.iload_n 3, 1) := by decide +kernel
theorem d_Ro_digitAt_23 : decode prog_9_method_22_code 23 = .ok (.bipush 15, 2) := by decide +kernel
theorem d_Ro_digitAt_25 : decode prog_9_method_22_code 25 = .ok (.iand, 1) := by decide +kernel
theorem d_Ro_digitAt_26 : decode prog_9_method_22_code 26 = .ok (.goto 6, 3) := by decide +kernel
theorem d_Ro_digitAt_29 : decode prog_9_method_22_code 29 = .ok (.iload_n 3, 1) := by decide +kernel
theorem d_Ro_digitAt_30 : decode prog_9_method_22_code 30 = .ok (.iconst 4, 1) := by decide +kernel
theorem d_Ro_digitAt_31 : decode prog_9_method_22_code 31 = .ok (.ishr, 1) := by decide +kernel
theorem d_Ro_digitAt_32 : decode prog_9_method_22_code 32 = .ok (.ireturn, 1) := by decide +kernel
theorem d_Ro_numberAt_0 : decode prog_9_method_23_code 0 = .ok (.lconst 0, 1) := by decide +kernel
theorem d_Ro_numberAt_1 : decode prog_9_method_23_code 1 = .ok (.lstore_n 2, 1) := by decide +kernel
theorem d_Ro_numberAt_2 : decode prog_9_method_23_code 2 = .ok (.aload_n 0, 1) := by decide +kernel
theorem d_Ro_numberAt_3 : decode prog_9_method_23_code 3 = .ok (.iload_n 1, 1) := by decide +kernel
theorem d_Ro_numberAt_4 : decode prog_9_method_23_code 4 = .ok (.invokevirtual 58, 3) := by decide +kernel
theorem d_Ro_numberAt_7 : decode prog_9_method_23_code 7 = .ok (.istore 4, 2) := by decide +kernel
theorem d_Ro_numberAt_9 : decode prog_9_method_23_code 9 = .ok (.iconst 0, 1) := by decide +kernel
theorem d_Ro_numberAt_10 : decode prog_9_method_23_code 10 = .ok (.istore 5, 2) := by decide +kernel
theorem d_Ro_numberAt_12 : decode prog_9_method_23_code 12 = .ok (.iload 5, 2) := by decide +kernel
theorem d_Ro_numberAt_14 : decode prog_9_method_23_code 14 = .ok (.iload 4, 2) := by decide +kernel
theorem d_Ro_numberAt_16 : decode prog_9_method_23_code 16 = .ok (.if_icmp .ge 26, 3) := by decide +kernel
theorem d_Ro_numberAt_19 : decode prog_9_method_23_code 19 = .ok (.ldc2_w 17, 3) := by decide +kernel
theorem d_Ro_numberAt_22 : decode prog_9_method_23_code 22 = .ok (.lload_n 2, 1) := by decide +kernel
theorem d_Ro_numberAt_23 : decode prog_9_method_23_code 23 = .ok (.lmul, 1) := by decide +kernel
theorem d_Ro_numberAt_24 : decode prog_9_method_23_code 24 = .ok (.aload_n 0, 1) := by decide +kernel
theorem d_Ro_numberAt_25 : decode prog_9_method_23_code 25 = .ok (.iload_n 1, 1) := by decide +kernel
theorem d_Ro_numberAt_26 : decode prog_9_method_23_code 26 = .ok (.iconst 2, 1) := by decide +kernel
theorem d_Ro_numberAt_27 : decode prog_9_method_23_code 27 = .ok (.iadd, 1) := by decide +kernel
theorem d_Ro_numberAt_28 : decode prog_9_method_23_code 28 = .ok (.iload 5, 2) := by decide +kernel
theorem d_Ro_numberAt_30 : decode prog_9_method_23_code 30 = .ok (.invokevirtual 61, 3) := by decide +kernel
theorem d_Ro_numberAt_33 : decode prog_9_method_23_code 33 = .ok (.i2l, 1) := by decide +kernel
theorem d_Ro_numberAt_34 : decode prog_9_method_23_code 34 = .ok (.ladd, 1) := by decide +kernel
theorem d_Ro_numberAt_35 : decode prog_9_method_23_code 35 = .ok (.lstore_n 2, 1) := by decide +kernel
theorem d_Ro_numberAt_36 : decode prog_9_method_23_code 36 = .ok (.iinc 5 1, 3) := by decide +kernel
theorem d_Ro_numberAt_39 : decode prog_9_method_23_code 39 = .ok (.goto (-27), 3) := by decide +kernel
theorem d_Ro_numberAt_42 : decode prog_9_method_23_code 42 = .ok (.lload_n 2, 1) := by decide +kernel
theorem d_Ro_numberAt_43 : decode prog_9_method_23_code 43 = .ok (.lreturn, 1) := by decide +kernel
end
section
theorem d_Ro_hasHeader_0 : decode prog_9_method_24_code 0 = .ok (.aload_n 0, 1) := by decide +kernel
theorem d_Ro_hasHeader_1 : decode prog_9_method_24_code 1 = .ok (.iconst 0, 1) := by decide +kernel
theorem d_Ro_hasHeader_2 : decode prog_9_method_24_code 2 = .ok (.invokevirtual 58, 3) := by decide +kernel
theorem d_Ro_hasHeader_5 : decode prog_9_method_24_code 5 = .ok (.bipush 64, 2) := by decide +kernel
theorem d_Ro_hasHeader_7 : decode prog_9_method_24_code 7 = .ok (.iand, 1) := by decide +kernel
theorem d_Ro_hasHeader_8 : decode prog_9_method_24_code 8 = .ok (.ifCond .eq 7, 3) := by decide +kernel
theorem d_Ro_hasHeader_11 : decode prog_9_method_24_code 11 = .ok (.iconst 1, 1) := by decide +kernel
theorem d_Ro_hasHeader_12 : decode prog_9_method_24_code 12 = .ok (.goto 4, 3) := by decide +kernel
theorem d_Ro_hasHeader_15 : decode prog_9_method_24_code 15 = .ok (.iconst 0, 1) := by decide +kernel
theorem d_Ro_hasHeader_16 : decode prog_9_method_24_code 16 = .ok (.ireturn, 1) := by decide +kernel
theorem d_Ro_firstBit_0 : decode prog_9_method_25_code 0 = .ok (.aload_n 0, 1) := by decide +kernel
theorem d_Ro_firstBit_1 : decode prog_9_method_25_code 1 = .ok (.invokevirtual 65, 3) := by decide +kernel
theorem d_Ro_firstBit_4 : decode prog_9_method_25_code 4 = .ok (.ifCond .eq 8, 3) := by decide +kernel
theorem d_Ro_firstBit_7 : decode prog_9_method_25_code 7 = .ok (.bipush 49, 2) := by decide +kernel
theorem d_Ro_firstBit_9 : decode prog_9_method_25_code 9 = .ok (.goto 4, 3) := by decide +kernel
theorem d_Ro_firstBit_12 : decode prog_9_method_25_code 12 = .ok (.iconst 0, 1) := by decide +kernel
theorem d_Ro_firstBit_13 : decode prog_9_method_25_code 13 = .ok (.ireturn, 1) := by decide +kernel
theorem d_Ro_submitDataAt_0 : decode prog_9_method_26_code 0 = .ok (.iconst 2, 1) := by decide +kernel
theorem d_Ro_submitDataAt_1 : decode prog_9_method_26_code 1 = .ok (.aload_n 0, 1) := by decide +kernel
theorem d_Ro_submitDataAt_2 : decode prog_9_method_26_code 2 = .ok (.iconst 2, 1) := by decide +kernel
theorem d_Ro_submitDataAt_3 : decode prog_9_method_26_code 3 = .ok (.invokevirtual 58, 3) := by decide +kernel
theorem d_Ro_submitDataAt_6 : decode prog_9_method_26_code 6 = .ok (.invokestatic 23, 3) := by decide +kernel
theorem d_Ro_submitDataAt_9 : decode prog_9_method_26_code 9 = .ok (.iadd, 1) := by decide +kernel
theorem d_Ro_submitDataAt_10 : decode prog_9_method_26_code 10 = .ok (.iconst 3, 1) := by decide +kernel
theorem d_Ro_submitDataAt_11 : decode prog_9_method_26_code 11 = .ok (.iadd, 1) := by decide +kernel
theorem d_Ro_submitDataAt_12 : decode prog_9_method_26_code 12 = .ok (.ireturn, 1) := by decide +kernel
theorem d_Ro_deliverDataAt_0 : decode prog_9_method_27_code 0 = .ok (.iconst 1, 1) := by decide +kernel
theorem d_Ro_deliverDataAt_1 : decode prog_9_method_27_code 1 = .ok (.aload_n 0, 1) := by decide +kernel
theorem d_Ro_deliverDataAt_2 : decode prog_9_method_27_code 2 = .ok (.iconst 1, 1) := by decide +kernel
theorem d_Ro_deliverDataAt_3 : decode prog_9_method_27_code 3 = .ok (.invokevirtual 58, 3) := by decide +kernel
theorem d_Ro_deliverDataAt_6 : decode prog_9_method_27_code 6 = .ok (.invokestatic 23, 3) := by decide +kernel
theorem d_Ro_deliverDataAt_9 : decode prog_9_method_27_code 9 = .ok (.iadd, 1) := by decide +kernel
theorem d_Ro_deliverDataAt_10 : decode prog_9_method_27_code 10 = .ok (.iconst 2, 1) := by decide +kernel
theorem d_Ro_deliverDataAt_11 : decode prog_9_method_27_code 11 = .ok (.iadd, 1) := by decide +kernel
theorem d_Ro_deliverDataAt_12 : decode prog_9_method_27_code 12 = .ok (.bipush 7, 2) := by decide +kernel
theorem d_Ro_deliverDataAt_14 : decode prog_9_method_27_code 14 = .ok (.iadd, 1) := by decide +kernel
theorem d_Ro_deliverDataAt_15 : decode prog_9_method_27_code 15 = .ok (.ireturn, 1) := by decide +kernel
theorem d_Ro_readText_0 : decode prog_9_method_28_code 0 = .ok (.aload_n 0, 1) := by decide +kernel
theorem d_Ro_readText_1 : decode prog_9_method_28_code 1 = .ok (.invokevirtual 69, 3) := by decide +kernel
theorem d_Ro_readText_4 : decode prog_9_method_28_code 4 = .ok (.istore_n 3, 1) := by decide +kernel
theorem d_Ro_readText_5 : decode prog_9_method_28_code 5 = .ok (.iload_n 2, 1) := by decide +kernel
theorem d_Ro_readText_6 : decode prog_9_method_28_code 6 = .ok (.istore 4, 2) := by decide +kernel
theorem d_Ro_readText_8 : decode prog_9_method_28_code 8 = .ok (.bipush 7, 2) := by decide +kernel
theorem d_Ro_readText_10 : decode prog_9_method_28_code 10 = .ok (.aload_n 0, 1) := by decide +kernel
theorem d_Ro_readText_11 : decode prog_9_method_28_code 11 = .ok (.iload_n 3, 1) := by decide +kernel
theorem d_Ro_readText_12 : decode prog_9_method_28_code 12 = .ok (.invokevirtual 58, 3) := by decide +kernel
theorem d_Ro_readText_15 : decode prog_9_method_28_code 15 = .ok (.imul, 1) := by decide +kernel
theorem d_Ro_readText_16 : decode prog_9_method_28_code 16 = .ok (.istore 5, 2) := by decide +kernel
theorem d_Ro_readText_18 : decode prog_9_method_28_code 18 = .ok (.iconst 0, 1) := by decide +kernel
theorem d_Ro_readText_19 : decode prog_9_method_28_code 19 = .ok (.istore 6, 2) := by decide +kernel
theorem d_Ro_readText_21 : decode prog_9_method_28_code 21 = .ok (.aload_n 0, 1) := by decide +kernel
theorem d_Ro_readText_22 : decode prog_9_method_28_code 22 = .ok (.invokevirtual 72, 3) := by decide +kernel
theorem d_Ro_readText_25 : decode prog_9_method_28_code 25 = .ok (.istore 7, 2) := by decide +kernel
theorem d_Ro_readText_27 : decode prog_9_method_28_code 27 = .ok (.iload 7, 2) := by decide +kernel
theorem d_Ro_readText_29 : decode prog_9_method_28_code 29 = .ok (.iload 5, 2) := by decide +kernel
theorem d_Ro_readText_31 : decode prog_9_method_28_code 31 = .ok (.if_icmp .ge 68, 3) := by decide +kernel
theorem d_Ro_readText_34 : decode prog_9_method_28_code 34 = .ok (.iload 4, 2) := by decide +kernel
theorem d_Ro_readText_36 : decode prog_9_method_28_code 36 = .ok (.aload_n 1, 1) := by decide +kernel
theorem d_Ro_readText_37 : decode prog_9_method_28_code 37 = .ok (.arraylength, 1) := by decide +kernel
theorem d_Ro_readText_38 : decode prog_9_method_28_code 38 = .ok (.if_icmp .ge 61, 3) := by decide +kernel
theorem d_Ro_readText_41 : decode prog_9_method_28_code 41 = .ok (.aload_n 0, 1) := by decide +kernel
theorem d_Ro_readText_42 : decode prog_9_method_28_code 42 = .ok (.iload_n 3, 1) := by decide +kernel
theorem d_Ro_readText_43 : decode prog_9_method_28_code 43 = .ok (.iconst 1, 1) := by decide +kernel
theorem d_Ro_readText_44 : decode prog_9_method_28_code 44 = .ok (.iadd, 1) := by decide +kernel
theorem d_Ro_readText_45 : decode prog_9_method_28_code 45 = .ok (.iload 7, 2) := by decide +kernel
theorem d_Ro_readText_47 : decode prog_9_method_28_code 47 = .ok (.invokevirtual 75, 3) := by decide +kernel
theorem d_Ro_readText_50 : decode prog_9_method_28_code 50 = .ok (.istore 8, 2) := by decide +kernel
theorem d_Ro_readText_52 : decode prog_9_method_28_code 52 = .ok (.iload 8, 2) := by decide +kernel
theorem d_Ro_readText_54 : decode prog_9_method_28_code 54 = .ok (.bipush 27, 2) := by decide +kernel
theorem d_Ro_readText_56 : decode prog_9_method_28_code 56 = .ok (.if_icmp .ne 9, 3) := by decide +kernel
theorem d_Ro_readText_59 : decode prog_9_method_28_code 59 = .ok (.iconst 1, 1) := by decide +kernel
theorem d_Ro_readText_60 : decode prog_9_method_28_code 60 = .ok (.istore 6, 2) := by decide +kernel
theorem d_Ro_readText_62 : decode prog_9_method_28_code 62 = .ok (.goto 31, 3) := by decide +kernel
theorem d_Ro_readText_65 : decode prog_9_method_28_code 65 = .ok (.aload_n 1, 1) := by decide +kernel
theorem d_Ro_readText_66 : decode prog_9_method_28_code 66 = .ok (.iload 4, 2) := by decide +kernel
theorem d_Ro_readText_68 : decode prog_9_method_28_code 68 = .ok (.iload 6, 2) := by decide +kernel
theorem d_Ro_readText_70 : decode prog_9_method_28_code 70 = .ok (.ifCond .eq 11, 3) := by decide +kernel
theorem d_Ro_readText_73 : decode prog_9_method_28_code 73 = .ok (.iload 8, 2) := by decide +kernel
theorem d_Ro_readText_75 : decode prog_9_method_28_code 75 = .ok (.invokestatic 80, 3) := by decide +kernel
theorem d_Ro_readText_78 : decode prog_9_method_28_code 78 = .ok (.goto 8, 3) := by decide +kernel
theorem d_Ro_readText_81 : decode prog_9_method_28_code 81 = .ok (.iload 8, 2) := by decide +kernel
theorem d_Ro_readText_83 : decode prog_9_method_28_code 83 = .ok (.invokestatic 83, 3) := by decide +kernel
theorem d_Ro_readText_86 : decode prog_9_method_28_code 86 = .ok (.iastore, 1) := by decide +kernel
theorem d_Ro_readText_87 : decode prog_9_method_28_code 87 = .ok (.iconst 0, 1) := by decide +kernel
theorem d_Ro_readText_88 : decode prog_9_method_28_code 88 = .ok (.istore 6, 2) := by decide +kernel
theorem d_Ro_readText_90 : decode prog_9_method_28_code 90 = .ok (.iinc 4 1, 3) := by decide +kernel
theorem d_Ro_readText_93 : decode prog_9_method_28_code 93 = .ok (.iinc 7 7, 3) := by decide +kernel
theorem d_Ro_readText_96 : decode prog_9_method_28_code 96 = .ok (.goto (-69), 3) := by decide +kernel
theorem d_Ro_readText_99 : decode prog_9_method_28_code 99 = .ok (.iload 4, 2) := by decide +kernel
theorem d_Ro_readText_101 : decode prog_9_method_28_code 101 = .ok (.ireturn, 1) := by decide +kernel
theorem d_Su_areKept_0 : decode prog_10_method_2_code 0 = .ok (.aload_n 0, 1) := by decide +kernel
theorem d_Su_areKept_1 : decode prog_10_method_2_code 1 = .ok (.iconst 0, 1) := by decide +kernel
theorem d_Su_areKept_2 : decode prog_10_method_2_code 2 = .ok (.invokevirtual 9, 3) := by decide +kernel
theorem d_Su_areKept_5 : decode prog_10_method_2_code 5 = .ok (.bipush (-97), 2) := by decide +kernel
theorem d_Su_areKept_7 : decode prog_10_method_2_code 7 = .ok (.iand, 1) := by decide +kernel
theorem d_Su_areKept_8 : decode prog_10_method_2_code 8 = .ok (.istore_n 1, 1) := by decide +kernel
theorem d_Su_areKept_9 : decode prog_10_method_2_code 9 = .ok (.iload_n 1, 1) := by decide +kernel
theorem d_Su_areKept_10 : decode prog_10_method_2_code 10 = .ok (.bipush 17, 2) := by decide +kernel
theorem d_Su_areKept_12 : decode prog_10_method_2_code 12 = .ok (.if_icmp .ne 11, 3) := by decide +kernel
theorem d_Su_areKept_15 : decode prog_10_method_2_code 15 = .ok (.aload_n 0, 1) := by decide +kernel
theorem d_Su_areKept_16 : decode prog_10_method_2_code 16 = .ok (.iconst 2, 1) := by decide +kernel
theorem d_Su_areKept_17 : decode prog_10_method_2_code 17 = .ok (.invokestatic 15, 3) := by decide +kernel
theorem d_Su_areKept_20 : decode prog_10_method_2_code 20 = .ok (.ifCond .ne 5, 3) := by decide +kernel
theorem d_Su_areKept_23 : decode prog_10_method_2_code 23 = .ok (.iconst 0, 1) := by decide +kernel
theorem d_Su_areKept_24 : decode prog_10_method_2_code 24 = .ok (.ireturn, 1) := by decide +kernel
theorem d_Su_areKept_25 : decode prog_10_method_2_code 25 = .ok (.aload_n 0, 1) := by decide +kernel
theorem d_Su_areKept_26 : decode prog_10_method_2_code 26 = .ok (.invokevirtual 21, 3) := by decide +kernel
theorem d_Su_areKept_29 : decode prog_10_method_2_code 29 = .ok (.istore_n 2, 1) := by decide +kernel
theorem d_Su_areKept_30 : decode prog_10_method_2_code 30 = .ok (.aload_n 0, 1) := by decide +kernel
theorem d_Su_areKept_31 : decode prog_10_method_2_code 31 = .ok (.iload_n 2, 1) := by decide +kernel
theorem d_Su_areKept_32 : decode prog_10_method_2_code 32 = .ok (.iconst 1, 1) := by decide +kernel
theorem d_Su_areKept_33 : decode prog_10_method_2_code 33 = .ok (.isub, 1) := by decide +kernel
theorem d_Su_areKept_34 : decode prog_10_method_2_code 34 = .ok (.invokevirtual 9, 3) := by decide +kernel
theorem d_Su_areKept_37 : decode prog_10_method_2_code 37 = .ok (.istore_n 3, 1) := by decide +kernel
theorem d_Su_areKept_38 : decode prog_10_method_2_code 38 = .ok (.aload_n 0, 1) := by decide +kernel
theorem d_Su_areKept_39 : decode prog_10_method_2_code 39 = .ok (.iload_n 2, 1) := by decide +kernel
theorem d_Su_areKept_40 : decode prog_10_method_2_code 40 = .ok (.iconst 3, 1) := by decide +kernel
theorem d_Su_areKept_41 : decode prog_10_method_2_code 41 = .ok (.isub, 1) := by decide +kernel
theorem d_Su_areKept_42 : decode prog_10_method_2_code 42 = .ok (.invokevirtual 9, 3) := by decide +kernel
theorem d_Su_areKept_45 : decode prog_10_method_2_code 45 = .ok (.ifCond .ne 36, 3) := by decide +kernel
theorem d_Su_areKept_48 : decode prog_10_method_2_code 48 = .ok (.aload_n 0, 1) := by decide +kernel
theorem d_Su_areKept_49 : decode prog_10_method_2_code 49 = .ok (.iload_n 2, 1) := by decide +kernel
theorem d_Su_areKept_50 : decode prog_10_method_2_code 50 = .ok (.iconst 2, 1) := by decide +kernel
theorem d_Su_areKept_51 : decode prog_10_method_2_code 51 = .ok (.isub, 1) := by decide +kernel
theorem d_Su_areKept_52 : decode prog_10_method_2_code 52 = .ok (.invokevirtual 9, 3) := by decide +kernel
theorem d_Su_areKept_55 : decode prog_10_method_2_code 55 = .ok (.ifCond .ne 26, 3) := by decide +kernel
theorem d_Su_areKept_58 : decode prog_10_method_2_code 58 = .ok (.iload_n 3, 1) := by decide +kernel
theorem d_Su_areKept_59 : decode prog_10_method_2_code 59 = .ok (.ifCond .lt 22, 3) := by decide +kernel
theorem d_Su_areKept_62 : decode prog_10_method_2_code 62 = .ok (.iload_n 3, 1) := by decide +kernel
theorem d_Su_areKept_63 : decode prog_10_method_2_code 63 = .ok (.sipush 143, 3) := by decide +kernel
theorem d_Su_areKept_66 : decode prog_10_method_2_code 66 = .ok (.if_icmp .gt 15, 3) := by decide +kernel
theorem d_Su_areKept_69 : decode prog_10_method_2_code 69 = .ok (.aload_n 0, 1) := by decide +kernel
theorem d_Su_areKept_70 : decode prog_10_method_2_code 70 = .ok (.iload_n 2, 1) := by decide +kernel
theorem d_Su_areKept_71 : decode prog_10_method_2_code 71 = .ok (.invokestatic 25, 3) := by decide +kernel
theorem d_Su_areKept_74 : decode prog_10_method_2_code 74 = .ok (.ifCond .eq 7, 3) := by decide +kernel
theorem d_Su_areKept_77 : decode prog_10_method_2_code 77 = .ok (.iconst 1, 1) := by decide +kernel
theorem d_Su_areKept_78 : decode prog_10_method_2_code 78 = .ok (.goto 4, 3) := by decide +kernel
theorem d_Su_areKept_81 : decode prog_10_method_2_code 81 = .ok (.iconst 0, 1) := by decide +kernel
theorem d_Su_areKept_82 : decode prog_10_method_2_code 82 = .ok (.ireturn, 1) := by decide +kernel
theorem d_Su_isAddress_0 : decode prog_10_method_3_code 0 = .ok (.aload_n 0, 1) := by decide +kernel
theorem d_Su_isAddress_1 : decode prog_10_method_3_code 1 = .ok (.iload_n 1, 1) := by decide +kernel
theorem d_Su_isAddress_2 : decode prog_10_method_3_code 2 = .ok (.invokevirtual 9, 3) := by decide +kernel
theorem d_Su_isAddress_5 : decode prog_10_method_3_code 5 = .ok (.istore_n 2, 1) := by decide +kernel
theorem d_Su_isAddress_6 : decode prog_10_method_3_code 6 = .ok (.iload_n 2, 1) := by decide +kernel
theorem d_Su_isAddress_7 : decode prog_10_method_3_code 7 = .ok (.iconst 1, 1) := by decide +kernel
theorem d_Su_isAddress_8 : decode prog_10_method_3_code 8 = .ok (.if_icmp .lt 22, 3) := by decide +kernel
theorem d_Su_isAddress_11 : decode prog_10_method_3_code 11 = .ok (.iload_n 2, 1) := by decide +kernel
theorem d_Su_isAddress_12 : decode prog_10_method_3_code 12 = .ok (.bipush 12, 2) := by decide +kernel
theorem d_Su_isAddress_14 : decode prog_10_method_3_code 14 = .ok (.if_icmp .gt 16, 3) := by decide +kernel
theorem d_Su_isAddress_17 : decode prog_10_method_3_code 17 = .ok (.aload_n 0, 1) := by decide +kernel
theorem d_Su_isAddress_18 : decode prog_10_method_3_code 18 = .ok (.iload_n 1, 1) := by decide +kernel
theorem d_Su_isAddress_19 : decode prog_10_method_3_code 19 = .ok (.iconst 1, 1) := by decide +kernel
theorem d_Su_isAddress_20 : decode prog_10_method_3_code 20 = .ok (.iadd, 1) := by decide +kernel
theorem d_Su_isAddress_21 : decode prog_10_method_3_code 21 = .ok (.invokevirtual 9, 3) := by decide +kernel
theorem d_Su_isAddress_24 : decode prog_10_method_3_code 24 = .ok (.sipush 145, 3) := by decide +kernel
theorem d_Su_isAddress_27 : decode prog_10_method_3_code 27 = .ok (.if_icmp .eq 5, 3) := by decide +kernel
theorem d_Su_isAddress_30 : decode prog_10_method_3_code 30 = .ok (.iconst 0, 1) := by decide +kernel
theorem d_Su_isAddress_31 : decode prog_10_method_3_code 31 = .ok (.ireturn, 1) := by decide +kernel
theorem d_Su_isAddress_32 : decode prog_10_method_3_code 32 = .ok (.iconst 0, 1) := by decide +kernel
theorem d_Su_isAddress_33 : decode prog_10_method_3_code 33 = .ok (.istore_n 3, 1) := by decide +kernel
theorem d_Su_isAddress_34 : decode prog_10_method_3_code 34 = .ok (.iload_n 3, 1) := by decide +kernel
theorem d_Su_isAddress_35 : decode prog_10_method_3_code 35 = .ok (.iload_n 2, 1) := by decide +kernel
theorem d_Su_isAddress_36 : decode prog_10_method_3_code 36 = .ok (.if_icmp .ge 42, 3) := by decide +kernel
theorem d_Su_isAddress_39 : decode prog_10_method_3_code 39 = .ok (.aload_n 0, 1) := by decide +kernel
theorem d_Su_isAddress_40 : decode prog_10_method_3_code 40 = .ok (.iload_n 1, 1) := by decide +kernel
theorem d_Su_isAddress_41 : decode prog_10_method_3_code 41 = .ok (.iconst 2, 1) := by decide +kernel
theorem d_Su_isAddress_42 : decode prog_10_method_3_code 42 = .ok (.iadd, 1) := by decide +kernel
theorem d_Su_isAddress_43 : decode prog_10_method_3_code 43 = .ok (.iload_n 3, 1) := by decide +kernel
theorem d_Su_isAddress_44 : decode prog_10_method_3_code 44 = .ok (.invokevirtual 28, 3) := by decide +kernel
theorem d_Su_isAddress_47 : decode prog_10_method_3_code 47 = .ok (.istore 4, 2) := by decide +kernel
theorem d_Su_isAddress_49 : decode prog_10_method_3_code 49 = .ok (.iload 4, 2) := by decide +kernel
theorem d_Su_isAddress_51 : decode prog_10_method_3_code 51 = .ok (.iload_n 3, 1) := by decide +kernel
theorem d_Su_isAddress_52 : decode prog_10_method_3_code 52 = .ok (.ifCond .ne 7, 3) := by decide +kernel
theorem d_Su_isAddress_55 : decode prog_10_method_3_code 55 = .ok (.iconst 1, 1) := by decide +kernel
theorem d_Su_isAddress_56 : decode prog_10_method_3_code 56 = .ok (.goto 4, 3) := by decide +kernel
theorem d_Su_isAddress_59 : decode prog_10_method_3_code 59 = .ok (.iconst 0, 1) := by decide +kernel
theorem d_Su_isAddress_60 : decode prog_10_method_3_code 60 = .ok (.if_icmp .lt 10, 3) := by decide +kernel
theorem d_Su_isAddress_63 : decode prog_10_method_3_code 63 = .ok (.iload 4, 2) := by decide +kernel
theorem d_Su_isAddress_65 : decode prog_10_method_3_code 65 = .ok (.bipush 9, 2) := by decide +kernel
theorem d_Su_isAddress_67 : decode prog_10_method_3_code 67 = .ok (.if_icmp .le 5, 3) := by decide +kernel
theorem d_Su_isAddress_70 : decode prog_10_method_3_code 70 = .ok (.iconst 0, 1) := by decide +kernel
theorem d_Su_isAddress_71 : decode prog_10_method_3_code 71 = .ok (.ireturn, 1) := by decide +kernel
theorem d_Su_isAddress_72 : decode prog_10_method_3_code 72 = .ok (.iinc 3 1, 3) := by decide +kernel
theorem d_Su_isAddress_75 : decode prog_10_method_3_code 75 = .ok (.goto (-41), 3) := by decide +kernel
theorem d_Su_isAddress_78 : decode prog_10_method_3_code 78 = .ok (.iload_n 2, 1) := by decide +kernel
theorem d_Su_isAddress_79 : decode prog_10_method_3_code 79 = .ok (.iconst 2, 1) := by decide +kernel
theorem d_Su_isAddress_80 : decode prog_10_method_3_code 80 = .ok (.irem, 1) := by decide +kernel
theorem d_Su_isAddress_81 : decode prog_10_method_3_code 81 = .ok (.ifCond .eq 16, 3) := by decide +kernel
theorem d_Su_isAddress_84 : decode prog_10_method_3_code 84 = .ok (.aload_n 0, 1) := by decide +kernel
theorem d_Su_isAddress_85 : decode prog_10_method_3_code 85 = .ok (.iload_n 1, 1) := by decide +kernel
theorem d_Su_isAddress_86 : decode prog_10_method_3_code 86 = .ok (.iconst 2, 1) := by decide +kernel
theorem d_Su_isAddress_87 : decode prog_10_method_3_code 87 = .ok (.iadd, 1) := by decide +kernel
theorem d_Su_isAddress_88 : decode prog_10_method_3_code 88 = .ok (.iload_n 2, 1) := by decide +kernel
theorem d_Su_isAddress_89 : decode prog_10_method_3_code 89 = .ok (.invokevirtual 28, 3) := by decide +kernel
theorem d_Su_isAddress_92 : decode prog_10_method_3_code 92 = .ok (.bipush 15, 2) := by decide +kernel
theorem d_Su_isAddress_94 : decode prog_10_method_3_code 94 = .ok (.if_icmp .ne 7, 3) := by decide +kernel
theorem d_Su_isAddress_97 : decode prog_10_method_3_code 97 = .ok (.iconst 1, 1) := by decide +kernel
theorem d_Su_isAddress_98 : decode prog_10_method_3_code 98 = .ok (.goto 4, 3) := by decide +kernel
theorem d_Su_isAddress_101 : decode prog_10_method_3_code 101 = .ok (.iconst 0, 1) := by decide +kernel
theorem d_Su_isAddress_102 : decode prog_10_method_3_code 102 = .ok (.ireturn, 1) := by decide +kernel
theorem d_Su_isUserData_0 : decode prog_10_method_4_code 0 = .ok (.aload_n 0, 1) := by decide +kernel
theorem d_Su_isUserData_1 : decode prog_10_method_4_code 1 = .ok (.iload_n 1, 1) := by decide +kernel
theorem d_Su_isUserData_2 : decode prog_10_method_4_code 2 = .ok (.invokevirtual 9, 3) := by decide +kernel
theorem d_Su_isUserData_5 : decode prog_10_method_4_code 5 = .ok (.istore_n 2, 1) := by decide +kernel
theorem d_Su_isUserData_6 : decode prog_10_method_4_code 6 = .ok (.iload_n 2, 1) := by decide +kernel
theorem d_Su_isUserData_7 : decode prog_10_method_4_code 7 = .ok (.ifCond .lt 23, 3) := by decide +kernel
theorem d_Su_isUserData_10 : decode prog_10_method_4_code 10 = .ok (.iload_n 2, 1) := by decide +kernel
theorem d_Su_isUserData_11 : decode prog_10_method_4_code 11 = .ok (.sipush 160, 3) := by decide +kernel
theorem d_Su_isUserData_14 : decode prog_10_method_4_code 14 = .ok (.if_icmp .gt 16, 3) := by decide +kernel
theorem d_Su_isUserData_17 : decode prog_10_method_4_code 17 = .ok (.aload_n 0, 1) := by decide +kernel
theorem d_Su_isUserData_18 : decode prog_10_method_4_code 18 = .ok (.invokevirtual 32, 3) := by decide +kernel
theorem d_Su_isUserData_21 : decode prog_10_method_4_code 21 = .ok (.iload_n 1, 1) := by decide +kernel
theorem d_Su_isUserData_22 : decode prog_10_method_4_code 22 = .ok (.iload_n 2, 1) := by decide +kernel
theorem d_Su_isUserData_23 : decode prog_10_method_4_code 23 = .ok (.invokestatic 35, 3) := by decide +kernel
theorem d_Su_isUserData_26 : decode prog_10_method_4_code 26 = .ok (.iadd, 1) := by decide +kernel
theorem d_Su_isUserData_27 : decode prog_10_method_4_code 27 = .ok (.if_icmp .eq 5, 3) := by decide +kernel
theorem d_Su_isUserData_30 : decode prog_10_method_4_code 30 = .ok (.iconst 0, 1) := by decide +kernel
theorem d_Su_isUserData_31 : decode prog_10_method_4_code 31 = .ok (.ireturn, 1) := by decide +kernel
theorem d_Su_isUserData_32 : decode prog_10_method_4_code 32 = .ok (.aload_n 0, 1) := by decide +kernel
theorem d_Su_isUserData_33 : decode prog_10_method_4_code 33 = .ok (.invokevirtual 38, 3) := by decide +kernel
theorem d_Su_isUserData_36 : decode prog_10_method_4_code 36 = .ok (.ifCond .eq 21, 3) := by decide +kernel
theorem d_Su_isUserData_39 : decode prog_10_method_4_code 39 = .ok (.iload_n 2, 1) := by decide +kernel
theorem d_Su_isUserData_40 : decode prog_10_method_4_code 40 = .ok (.bipush 7, 2) := by decide +kernel
theorem d_Su_isUserData_42 : decode prog_10_method_4_code 42 = .ok (.if_icmp .lt 13, 3) := by decide +kernel
theorem d_Su_isUserData_45 : decode prog_10_method_4_code 45 = .ok (.aload_n 0, 1) := by decide +kernel
theorem d_Su_isUserData_46 : decode prog_10_method_4_code 46 = .ok (.iload_n 1, 1) := by decide +kernel
theorem d_Su_isUserData_47 : decode prog_10_method_4_code 47 = .ok (.iconst 1, 1) := by decide +kernel
theorem d_Su_isUserData_48 : decode prog_10_method_4_code 48 = .ok (.iadd, 1) := by decide +kernel
theorem d_Su_isUserData_49 : decode prog_10_method_4_code 49 = .ok (.invokestatic 42, 3) := by decide +kernel
theorem d_Su_isUserData_52 : decode prog_10_method_4_code 52 = .ok (.ifCond .ne 5, 3) := by decide +kernel
theorem d_Su_isUserData_55 : decode prog_10_method_4_code 55 = .ok (.iconst 0, 1) := by decide +kernel
theorem d_Su_isUserData_56 : decode prog_10_method_4_code 56 = .ok (.ireturn, 1) := by decide +kernel
theorem d_Su_isUserData_57 : decode prog_10_method_4_code 57 = .ok (.bipush 7, 2) := by decide +kernel
theorem d_Su_isUserData_59 : decode prog_10_method_4_code 59 = .ok (.iload_n 2, 1) := by decide +kernel
theorem d_Su_isUserData_60 : decode prog_10_method_4_code 60 = .ok (.imul, 1) := by decide +kernel
theorem d_Su_isUserData_61 : decode prog_10_method_4_code 61 = .ok (.bipush 8, 2) := by decide +kernel
theorem d_Su_isUserData_63 : decode prog_10_method_4_code 63 = .ok (.irem, 1) := by decide +kernel
theorem d_Su_isUserData_64 : decode prog_10_method_4_code 64 = .ok (.istore_n 3, 1) := by decide +kernel
theorem d_Su_isUserData_65 : decode prog_10_method_4_code 65 = .ok (.iload_n 3, 1) := by decide +kernel
theorem d_Su_isUserData_66 : decode prog_10_method_4_code 66 = .ok (.ifCond .eq 20, 3) := by decide +kernel
theorem d_Su_isUserData_69 : decode prog_10_method_4_code 69 = .ok (.aload_n 0, 1) := by decide +kernel
theorem d_Su_isUserData_70 : decode prog_10_method_4_code 70 = .ok (.aload_n 0, 1) := by decide +kernel
theorem d_Su_isUserData_71 : decode prog_10_method_4_code 71 = .ok (.invokevirtual 32, 3) := by decide +kernel
theorem d_Su_isUserData_74 : decode prog_10_method_4_code 74 = .ok (.iconst 1, 1) := by decide +kernel
theorem d_Su_isUserData_75 : decode prog_10_method_4_code 75 = .ok (.isub, 1) := by decide +kernel
theorem d_Su_isUserData_76 : decode prog_10_method_4_code 76 = .ok (.invokevirtual 9, 3) := by decide +kernel
theorem d_Su_isUserData_79 : decode prog_10_method_4_code 79 = .ok (.iload_n 3, 1) := by decide +kernel
theorem d_Su_isUserData_80 : decode prog_10_method_4_code 80 = .ok (.ishr, 1) := by decide +kernel
theorem d_Su_isUserData_81 : decode prog_10_method_4_code 81 = .ok (.ifCond .eq 5, 3) := by decide +kernel
theorem d_Su_isUserData_84 : decode prog_10_method_4_code 84 = .ok (.iconst 0, 1) := by decide +kernel
theorem d_Su_isUserData_85 : decode prog_10_method_4_code 85 = .ok (.ireturn, 1) := by decide +kernel
theorem d_Su_isUserData_86 : decode prog_10_method_4_code 86 = .ok (.aload_n 0, 1) := by decide +kernel
theorem d_Su_isUserData_87 : decode prog_10_method_4_code 87 = .ok (.iload_n 1, 1) := by decide +kernel
theorem d_Su_isUserData_88 : decode prog_10_method_4_code 88 = .ok (.invokestatic 45, 3) := by decide +kernel
theorem d_Su_isUserData_91 : decode prog_10_method_4_code 91 = .ok (.ireturn, 1) := by decide +kernel
theorem d_Su_isHeader_0 : decode prog_10_method_5_code 0 = .ok (.aload_n 0, 1) := by decide +kernel
theorem d_Su_isHeader_1 : decode prog_10_method_5_code 1 = .ok (.iload_n 1, 1) := by decide +kernel
theorem d_Su_isHeader_2 : decode prog_10_method_5_code 2 = .ok (.iconst 4, 1) := by decide +kernel
theorem d_Su_isHeader_3 : decode prog_10_method_5_code 3 = .ok (.iadd, 1) := by decide +kernel
theorem d_Su_isHeader_4 : decode prog_10_method_5_code 4 = .ok (.invokevirtual 9, 3) := by decide +kernel
theorem d_Su_isHeader_7 : decode prog_10_method_5_code 7 = .ok (.istore_n 2, 1) := by decide +kernel
theorem d_Su_isHeader_8 : decode prog_10_method_5_code 8 = .ok (.aload_n 0, 1) := by decide +kernel
theorem d_Su_isHeader_9 : decode prog_10_method_5_code 9 = .ok (.iload_n 1, 1) := by decide +kernel
theorem d_Su_isHeader_10 : decode prog_10_method_5_code 10 = .ok (.iconst 5, 1) := by decide +kernel
theorem d_Su_isHeader_11 : decode prog_10_method_5_code 11 = .ok (.iadd, 1) := by decide +kernel
theorem d_Su_isHeader_12 : decode prog_10_method_5_code 12 = .ok (.invokevirtual 9, 3) := by decide +kernel
theorem d_Su_isHeader_15 : decode prog_10_method_5_code 15 = .ok (.istore_n 3, 1) := by decide +kernel
theorem d_Su_isHeader_16 : decode prog_10_method_5_code 16 = .ok (.aload_n 0, 1) := by decide +kernel
theorem d_Su_isHeader_17 : decode prog_10_method_5_code 17 = .ok (.iload_n 1, 1) := by decide +kernel
theorem d_Su_isHeader_18 : decode prog_10_method_5_code 18 = .ok (.bipush 6, 2) := by decide +kernel
theorem d_Su_isHeader_20 : decode prog_10_method_5_code 20 = .ok (.iadd, 1) := by decide +kernel
theorem d_Su_isHeader_21 : decode prog_10_method_5_code 21 = .ok (.invokevirtual 9, 3) := by decide +kernel
theorem d_Su_isHeader_24 : decode prog_10_method_5_code 24 = .ok (.iconst 1, 1) := by decide +kernel
theorem d_Su_isHeader_25 : decode prog_10_method_5_code 25 = .ok (.iand, 1) := by decide +kernel
theorem d_Su_isHeader_26 : decode prog_10_method_5_code 26 = .ok (.ifCond .ne 7, 3) := by decide +kernel
theorem d_Su_isHeader_29 : decode prog_10_method_5_code 29 = .ok (.iconst 1, 1) := by decide +kernel
theorem d_Su_isHeader_30 : decode prog_10_method_5_code 30 = .ok (.goto 4, 3) := by decide +kernel
theorem d_Su_isHeader_33 : decode prog_10_method_5_code 33 = .ok (.iconst 0, 1) := by decide +kernel
theorem d_Su_isHeader_34 : decode prog_10_method_5_code 34 = .ok (.istore 4, 2) := by decide +kernel
theorem d_Su_isHeader_36 : decode prog_10_method_5_code 36 = .ok (.aload_n 0, 1) := by decide +kernel
theorem d_Su_isHeader_37 : decode prog_10_method_5_code 37 = .ok (.iload_n 1, 1) := by decide +kernel
theorem d_Su_isHeader_38 : decode prog_10_method_5_code 38 = .ok (.invokevirtual 9, 3) := by decide +kernel
theorem d_Su_isHeader_41 : decode prog_10_method_5_code 41 = .ok (.iconst 5, 1) := by decide +kernel
theorem d_Su_isHeader_42 : decode prog_10_method_5_code 42 = .ok (.if_icmp .ne 53, 3) := by decide +kernel
theorem d_Su_isHeader_45 : decode prog_10_method_5_code 45 = .ok (.aload_n 0, 1) := by decide +kernel
theorem d_Su_isHeader_46 : decode prog_10_method_5_code 46 = .ok (.iload_n 1, 1) := by decide +kernel
theorem d_Su_isHeader_47 : decode prog_10_method_5_code 47 = .ok (.iconst 1, 1) := by decide +kernel
theorem d_Su_isHeader_48 : decode prog_10_method_5_code 48 = .ok (.iadd, 1) := by decide +kernel
theorem d_Su_isHeader_49 : decode prog_10_method_5_code 49 = .ok (.invokevirtual 9, 3) := by decide +kernel
theorem d_Su_isHeader_52 : decode prog_10_method_5_code 52 = .ok (.ifCond .ne 43, 3) := by decide +kernel
theorem d_Su_isHeader_55 : decode prog_10_method_5_code 55 = .ok (.aload_n 0, 1) := by decide +kernel
theorem d_Su_isHeader_56 : decode prog_10_method_5_code 56 = .ok (.iload_n 1, 1) := by decide +kernel
theorem d_Su_isHeader_57 : decode prog_10_method_5_code 57 = .ok (.iconst 2, 1) := by decide +kernel
theorem d_Su_isHeader_58 : decode prog_10_method_5_code 58 = .ok (.iadd, 1) := by decide +kernel
theorem d_Su_isHeader_59 : decode prog_10_method_5_code 59 = .ok (.invokevirtual 9, 3) := by decide +kernel
theorem d_Su_isHeader_62 : decode prog_10_method_5_code 62 = .ok (.iconst 3, 1) := by decide +kernel
theorem d_Su_isHeader_63 : decode prog_10_method_5_code 63 = .ok (.if_icmp .ne 32, 3) := by decide +kernel
theorem d_Su_isHeader_66 : decode prog_10_method_5_code 66 = .ok (.iload_n 2, 1) := by decide +kernel
theorem d_Su_isHeader_67 : decode prog_10_method_5_code 67 = .ok (.iconst 1, 1) := by decide +kernel
theorem d_Su_isHeader_68 : decode prog_10_method_5_code 68 = .ok (.if_icmp .lt 27, 3) := by decide +kernel
theorem d_Su_isHeader_71 : decode prog_10_method_5_code 71 = .ok (.iload_n 2, 1) := by decide +kernel
theorem d_Su_isHeader_72 : decode prog_10_method_5_code 72 = .ok (.iconst 3, 1) := by decide +kernel
theorem d_Su_isHeader_73 : decode prog_10_method_5_code 73 = .ok (.if_icmp .gt 22, 3) := by decide +kernel
theorem d_Su_isHeader_76 : decode prog_10_method_5_code 76 = .ok (.iload_n 3, 1) := by decide +kernel
theorem d_Su_isHeader_77 : decode prog_10_method_5_code 77 = .ok (.iconst 1, 1) := by decide +kernel
theorem d_Su_isHeader_78 : decode prog_10_method_5_code 78 = .ok (.if_icmp .lt 17, 3) := by decide +kernel
theorem d_Su_isHeader_81 : decode prog_10_method_5_code 81 = .ok (.iload_n 3, 1) := by decide +kernel
theorem d_Su_isHeader_82 : decode prog_10_method_5_code 82 = .ok (.iload_n 2, 1) := by decide +kernel
theorem d_Su_isHeader_83 : decode prog_10_method_5_code 83 = .ok (.if_icmp .gt 12, 3) := by decide +kernel
theorem d_Su_isHeader_86 : decode prog_10_method_5_code 86 = .ok (.iload 4, 2) := by decide +kernel
theorem d_Su_isHeader_88 : decode prog_10_method_5_code 88 = .ok (.ifCond .eq 7, 3) := by decide +kernel
theorem d_Su_isHeader_91 : decode prog_10_method_5_code 91 = .ok (.iconst 1, 1) := by decide +kernel
theorem d_Su_isHeader_92 : decode prog_10_method_5_code 92 = .ok (.goto 4, 3) := by decide +kernel
theorem d_Su_isHeader_95 : decode prog_10_method_5_code 95 = .ok (.iconst 0, 1) := by decide +kernel
theorem d_Su_isHeader_96 : decode prog_10_method_5_code 96 = .ok (.ireturn, 1) := by decide +kernel
theorem d_Su_isText_0 : decode prog_10_method_6_code 0 = .ok (.bipush 7, 2) := by decide +kernel
theorem d_Su_isText_2 : decode prog_10_method_6_code 2 = .ok (.aload_n 0, 1) := by decide +kernel
theorem d_Su_isText_3 : decode prog_10_method_6_code 3 = .ok (.iload_n 1, 1) := by decide +kernel
theorem d_Su_isText_4 : decode prog_10_method_6_code 4 = .ok (.invokevirtual 9, 3) := by decide +kernel
theorem d_Su_isText_7 : decode prog_10_method_6_code 7 = .ok (.imul, 1) := by decide +kernel
theorem d_Su_isText_8 : decode prog_10_method_6_code 8 = .ok (.istore_n 2, 1) := by decide +kernel
theorem d_Su_isText_9 : decode prog_10_method_6_code 9 = .ok (.iconst 0, 1) := by decide +kernel
theorem d_Su_isText_10 : decode prog_10_method_6_code 10 = .ok (.istore_n 3, 1) := by decide +kernel
theorem d_Su_isText_11 : decode prog_10_method_6_code 11 = .ok (.aload_n 0, 1) := by decide +kernel
theorem d_Su_isText_12 : decode prog_10_method_6_code 12 = .ok (.invokevirtual 48, 3) := by decide +kernel
theorem d_Su_isText_15 : decode prog_10_method_6_code 15 = .ok (.istore 4, 2) := by decide +kernel
theorem d_Su_isText_17 : decode prog_10_method_6_code 17 = .ok (.iload 4, 2) := by decide +kernel
theorem d_Su_isText_19 : decode prog_10_method_6_code 19 = .ok (.iload_n 2, 1) := by decide +kernel
theorem d_Su_isText_20 : decode prog_10_method_6_code 20 = .ok (.if_icmp .ge 52, 3) := by decide +kernel
theorem d_Su_isText_23 : decode prog_10_method_6_code 23 = .ok (.aload_n 0, 1) := by decide +kernel
theorem d_Su_isText_24 : decode prog_10_method_6_code 24 = .ok (.iload_n 1, 1) := by decide +kernel
theorem d_Su_isText_25 : decode prog_10_method_6_code 25 = .ok (.iconst 1, 1) := by decide +kernel
theorem d_Su_isText_26 : decode prog_10_method_6_code 26 = .ok (.iadd, 1) := by decide +kernel
theorem d_Su_isText_27 : decode prog_10_method_6_code 27 = .ok (.iload 4, 2) := by decide +kernel
theorem d_Su_isText_29 : decode prog_10_method_6_code 29 = .ok (.invokevirtual 51, 3) := by decide +kernel
theorem d_Su_isText_32 : decode prog_10_method_6_code 32 = .ok (.istore 5, 2) := by decide +kernel
theorem d_Su_isText_34 : decode prog_10_method_6_code 34 = .ok (.iload_n 3, 1) := by decide +kernel
theorem d_Su_isText_35 : decode prog_10_method_6_code 35 = .ok (.ifCond .eq 18, 3) := by decide +kernel
theorem d_Su_isText_38 : decode prog_10_method_6_code 38 = .ok (.iload 5, 2) := by decide +kernel
theorem d_Su_isText_40 : decode prog_10_method_6_code 40 = .ok (.invokestatic 54, 3) := by decide +kernel
theorem d_Su_isText_43 : decode prog_10_method_6_code 43 = .ok (.ifCond .ge 5, 3) := by decide +kernel
theorem d_Su_isText_46 : decode prog_10_method_6_code 46 = .ok (.iconst 0, 1) := by decide +kernel
theorem d_Su_isText_47 : decode prog_10_method_6_code 47 = .ok (.ireturn, 1) := by decide +kernel
theorem d_Su_isText_48 : decode prog_10_method_6_code 48 = .ok (.iconst 0, 1) := by decide +kernel
theorem d_Su_isText_49 : decode prog_10_method_6_code 49 = .ok (.istore_n 3, 1) := by decide +kernel
theorem d_Su_isText_50 : decode prog_10_method_6_code 50 = .ok (.goto 16, 3) := by decide +kernel
theorem d_Su_isText_53 : decode prog_10_method_6_code 53 = .ok (.iload 5, 2) := by decide +kernel
theorem d_Su_isText_55 : decode prog_10_method_6_code 55 = .ok (.bipush 27, 2) := by decide +kernel
theorem d_Su_isText_57 : decode prog_10_method_6_code 57 = .ok (.if_icmp .ne 7, 3) := by decide +kernel
theorem d_Su_isText_60 : decode prog_10_method_6_code 60 = .ok (.iconst 1, 1) := by decide +kernel
theorem d_Su_isText_61 : decode prog_10_method_6_code 61 = .ok (.goto 4, 3) := by decide +kernel
theorem d_Su_isText_64 : decode prog_10_method_6_code 64 = .ok (.iconst 0, 1) := by decide +kernel
theorem d_Su_isText_65 : decode prog_10_method_6_code 65 = .ok (.istore_n 3, 1) := by decide +kernel
theorem d_Su_isText_66 : decode prog_10_method_6_code 66 = .ok (.iinc 4 7, 3) := by decide +kernel
theorem d_Su_isText_69 : decode prog_10_method_6_code 69 = .ok (.goto (-52), 3) := by decide +kernel
theorem d_Su_isText_72 : decode prog_10_method_6_code 72 = .ok (.iload_n 3, 1) := by decide +kernel
theorem d_Su_isText_73 : decode prog_10_method_6_code 73 = .ok (.ifCond .ne 7, 3) := by decide +kernel
theorem d_Su_isText_76 : decode prog_10_method_6_code 76 = .ok (.iconst 1, 1) := by decide +kernel
theorem d_Su_isText_77 : decode prog_10_method_6_code 77 = .ok (.goto 4, 3) := by decide +kernel
theorem d_Su_isText_80 : decode prog_10_method_6_code 80 = .ok (.iconst 0, 1) := by decide +kernel
theorem d_Su_isText_81 : decode prog_10_method_6_code 81 = .ok (.ireturn, 1) := by decide +kernel
theorem d_Obj_init_0 : decode object_method_1_code 0 = .ok (.return_, 1) := by decide +kernel
theorem d_Ma_max_0 : decode prog_17_method_65_code 0 = .ok (.iload_n 0, 1) := by decide +kernel
theorem d_Ma_max_1 : decode prog_17_method_65_code 1 = .ok (.iload_n 1, 1) := by decide +kernel
theorem d_Ma_max_2 : decode prog_17_method_65_code 2 = .ok (.if_icmp .lt 7, 3) := by decide +kernel
theorem d_Ma_max_5 : decode prog_17_method_65_code 5 = .ok (.iload_n 0, 1) := by decide +kernel
theorem d_Ma_max_6 : decode prog_17_method_65_code 6 = .ok (.goto 4, 3) := by decide +kernel
theorem d_Ma_max_9 : decode prog_17_method_65_code 9 = .ok (.iload_n 1, 1) := by decide +kernel
theorem d_Ma_max_10 : decode prog_17_method_65_code 10 = .ok (.ireturn, 1) := by decide +kernel
theorem d_Ma_min_0 : decode prog_17_method_69_code 0 = .ok (.iload_n 0, 1) := by decide +kernel
theorem d_Ma_min_1 : decode prog_17_method_69_code 1 = .ok (.iload_n 1, 1) := by decide +kernel
theorem d_Ma_min_2 : decode prog_17_method_69_code 2 = .ok (.if_icmp .gt 7, 3) := by decide +kernel
theorem d_Ma_min_5 : decode prog_17_method_69_code 5 = .ok (.iload_n 0, 1) := by decide +kernel
theorem d_Ma_min_6 : decode prog_17_method_69_code 6 = .ok (.goto 4, 3) := by decide +kernel
theorem d_Ma_min_9 : decode prog_17_method_69_code 9 = .ok (.iload_n 1, 1) := by decide +kernel
theorem d_Ma_min_10 : decode prog_17_method_69_code 10 = .ok (.ireturn, 1) := by decide +kernel
theorem d_AbC_init_0 : decode prog_19_method_1_code 0 = .ok (.aload_n 0, 1) := by decide +kernel
theorem d_AbC_init_1 : decode prog_19_method_1_code 1 = .ok (.invokespecial 1, 3) := by decide +kernel
theorem d_AbC_init_4 : decode prog_19_method_1_code 4 = .ok (.return_, 1) := by decide +kernel
theorem d_AbL_init_0 : decode prog_20_method_1_code 0 = .ok (.aload_n 0, 1) := by decide +kernel
theorem d_AbL_init_1 : decode prog_20_method_1_code 1 = .ok (.invokespecial 1, 3) := by decide +kernel
theorem d_AbL_init_4 : decode prog_20_method_1_code 4 = .ok (.aload_n 0, 1) := by decide +kernel
theorem d_AbL_init_5 : decode prog_20_method_1_code 5 = .ok (.iconst 0, 1) := by decide +kernel
theorem d_AbL_init_6 : decode prog_20_method_1_code 6 = .ok (.putfield 7, 3) := by decide +kernel
theorem d_AbL_init_9 : decode prog_20_method_1_code 9 = .ok (.return_, 1) := by decide +kernel
theorem d_AL_init_0 : decode prog_21_method_2_code 0 = .ok (.aload_n 0, 1) := by decide +kernel
theorem d_AL_init_1 : decode prog_21_method_2_code 1 = .ok (.invokespecial 1, 3) := by decide +kernel
theorem d_AL_init_4 : decode prog_21_method_2_code 4 = .ok (.aload_n 0, 1) := by decide +kernel
theorem d_AL_init_5 : decode prog_21_method_2_code 5 = .ok (.getstatic 39, 3) := by decide +kernel
theorem d_AL_init_8 : decode prog_21_method_2_code 8 = .ok (.putfield 9, 3) := by decide +kernel
theorem d_AL_init_11 : decode prog_21_method_2_code 11 = .ok (.return_, 1) := by decide +kernel
theorem d_AL_add_0 : decode prog_21_method_25_code 0 = .ok (.aload_n 0, 1) := by decide +kernel
theorem d_AL_add_1 : decode prog_21_method_25_code 1 = .ok (.dup, 1) := by decide +kernel
theorem d_AL_add_2 : decode prog_21_method_25_code 2 = .ok (.getfield 63, 3) := by decide +kernel
theorem d_AL_add_5 : decode prog_21_method_25_code 5 = .ok (.iconst 1, 1) := by decide +kernel
theorem d_AL_add_6 : decode prog_21_method_25_code 6 = .ok (.iadd, 1) := by decide +kernel
theorem d_AL_add_7 : decode prog_21_method_25_code 7 = .ok (.putfield 63, 3) := by decide +kernel
theorem d_AL_add_10 : decode prog_21_method_25_code 10 = .ok (.aload_n 0, 1) := by decide +kernel
theorem d_AL_add_11 : decode prog_21_method_25_code 11 = .ok (.aload_n 1, 1) := by decide +kernel
theorem d_AL_add_12 : decode prog_21_method_25_code 12 = .ok (.aload_n 0, 1) := by decide +kernel
theorem d_AL_add_13 : decode prog_21_method_25_code 13 = .ok (.getfield 9, 3) := by decide +kernel
theorem d_AL_add_16 : decode prog_21_method_25_code 16 = .ok (.aload_n 0, 1) := by decide +kernel
theorem d_AL_add_17 : decode prog_21_method_25_code 17 = .ok (.getfield 48, 3) := by decide +kernel
theorem d_AL_add_20 : decode prog_21_method_25_code 20 = .ok (.invokevirtual 131, 3) := by decide +kernel
theorem d_AL_add_23 : decode prog_21_method_25_code 23 = .ok (.iconst 1, 1) := by decide +kernel
theorem d_AL_add_24 : decode prog_21_method_25_code 24 = .ok (.ireturn, 1) := by decide +kernel
theorem d_AL_add1_0 : decode prog_21_method_24_code 0 = .ok (.iload_n 3, 1) := by decide +kernel
theorem d_AL_add1_1 : decode prog_21_method_24_code 1 = .ok (.aload_n 2, 1) := by decide +kernel
theorem d_AL_add1_2 : decode prog_21_method_24_code 2 = .ok (.arraylength, 1) := by decide +kernel
theorem d_AL_add1_3 : decode prog_21_method_24_code 3 = .ok (.if_icmp .ne 8, 3) := by decide +kernel
theorem d_AL_add1_6 : decode prog_21_method_24_code 6 = .ok (.aload_n 0, 1) := by decide +kernel
theorem d_AL_add1_7 : decode prog_21_method_24_code 7 = .ok (.invokevirtual 129, 3) := by decide +kernel
theorem d_AL_add1_10 : decode prog_21_method_24_code 10 = .ok (.astore_n 2, 1) := by decide +kernel
theorem d_AL_add1_11 : decode prog_21_method_24_code 11 = .ok (.aload_n 2, 1) := by decide +kernel
theorem d_AL_add1_12 : decode prog_21_method_24_code 12 = .ok (.iload_n 3, 1) := by decide +kernel
theorem d_AL_add1_13 : decode prog_21_method_24_code 13 = .ok (.aload_n 1, 1) := by decide +kernel
theorem d_AL_add1_14 : decode prog_21_method_24_code 14 = .ok (.aastore, 1) := by decide +kernel
theorem d_AL_add1_15 : decode prog_21_method_24_code 15 = .ok (.aload_n 0, 1) := by decide +kernel
theorem d_AL_add1_16 : decode prog_21_method_24_code 16 = .ok (.iload_n 3, 1) := by decide +kernel
theorem d_AL_add1_17 : decode prog_21_method_24_code 17 = .ok (.iconst 1, 1) := by decide +kernel
theorem d_AL_add1_18 : decode prog_21_method_24_code 18 = .ok (.iadd, 1) := by decide +kernel
theorem d_AL_add1_19 : decode prog_21_method_24_code 19 = .ok (.putfield 48, 3) := by decide +kernel
theorem d_AL_add1_22 : decode prog_21_method_24_code 22 = .ok (.return_, 1) := by decide +kernel
theorem d_AL_elementData_0 : decode prog_21_method_18_code 0 = .ok (.aload_n 0, 1) := by decide +kernel
theorem d_AL_elementData_1 : decode prog_21_method_18_code 1 = .ok (.getfield 9, 3) := by decide +kernel
theorem d_AL_elementData_4 : decode prog_21_method_18_code 4 = .ok (.iload_n 1, 1) := by decide +kernel
theorem d_AL_elementData_5 : decode prog_21_method_18_code 5 = .ok (.aaload, 1) := by decide +kernel
theorem d_AL_elementData_6 : decode prog_21_method_18_code 6 = .ok (.areturn, 1) := by decide +kernel
theorem d_AL_fastRemove_0 : decode prog_21_method_39_code 0 = .ok (.aload_n 0, 1) := by decide +kernel
theorem d_AL_fastRemove_1 : decode prog_21_method_39_code 1 = .ok (.dup, 1) := by decide +kernel
theorem d_AL_fastRemove_2 : decode prog_21_method_39_code 2 = .ok (.getfield 63, 3) := by decide +kernel
theorem d_AL_fastRemove_5 : decode prog_21_method_39_code 5 = .ok (.iconst 1, 1) := by decide +kernel
theorem d_AL_fastRemove_6 : decode prog_21_method_39_code 6 = .ok (.iadd, 1) := by decide +kernel
theorem d_AL_fastRemove_7 : decode prog_21_method_39_code 7 = .ok (.putfield 63, 3) := by decide +kernel
theorem d_AL_fastRemove_10 : decode prog_21_method_39_code 10 = .ok (.aload_n 0, 1) := by decide +kernel
theorem d_AL_fastRemove_11 : decode prog_21_method_39_code 11 = .ok (.getfield 48, 3) := by decide +kernel
theorem d_AL_fastRemove_14 : decode prog_21_method_39_code 14 = .ok (.iconst 1, 1) := by decide +kernel
theorem d_AL_fastRemove_15 : decode prog_21_method_39_code 15 = .ok (.isub, 1) := by decide +kernel
theorem d_AL_fastRemove_16 : decode prog_21_method_39_code 16 = .ok (.dup, 1) := by decide +kernel
theorem d_AL_fastRemove_17 : decode prog_21_method_39_code 17 = .ok (.istore_n 3, 1) := by decide +kernel
theorem d_AL_fastRemove_18 : decode prog_21_method_39_code 18 = .ok (.iload_n 2, 1) := by decide +kernel
theorem d_AL_fastRemove_19 : decode prog_21_method_39_code 19 = .ok (.if_icmp .le 15, 3) := by decide +kernel
theorem d_AL_fastRemove_22 : decode prog_21_method_39_code 22 = .ok (.aload_n 1, 1) := by decide +kernel
theorem d_AL_fastRemove_23 : decode prog_21_method_39_code 23 = .ok (.iload_n 2, 1) := by decide +kernel
theorem d_AL_fastRemove_24 : decode prog_21_method_39_code 24 = .ok (.iconst 1, 1) := by decide +kernel
theorem d_AL_fastRemove_25 : decode prog_21_method_39_code 25 = .ok (.iadd, 1) := by decide +kernel
theorem d_AL_fastRemove_26 : decode prog_21_method_39_code 26 = .ok (.aload_n 1, 1) := by decide +kernel
theorem d_AL_fastRemove_27 : decode prog_21_method_39_code 27 = .ok (.iload_n 2, 1) := by decide +kernel
theorem d_AL_fastRemove_28 : decode prog_21_method_39_code 28 = .ok (.iload_n 3, 1) := by decide +kernel
theorem d_AL_fastRemove_29 : decode prog_21_method_39_code 29 = .ok (.iload_n 2, 1) := by decide +kernel
theorem d_AL_fastRemove_30 : decode prog_21_method_39_code 30 = .ok (.isub, 1) := by decide +kernel
theorem d_AL_fastRemove_31 : decode prog_21_method_39_code 31 = .ok (.invokestatic 112, 3) := by decide +kernel
theorem d_AL_fastRemove_34 : decode prog_21_method_39_code 34 = .ok (.aload_n 1, 1) := by decide +kernel
theorem d_AL_fastRemove_35 : decode prog_21_method_39_code 35 = .ok (.aload_n 0, 1) := by decide +kernel
theorem d_AL_fastRemove_36 : decode prog_21_method_39_code 36 = .ok (.iload_n 3, 1) := by decide +kernel
theorem d_AL_fastRemove_37 : decode prog_21_method_39_code 37 = .ok (.dup_x1, 1) := by decide +kernel
theorem d_AL_fastRemove_38 : decode prog_21_method_39_code 38 = .ok (.putfield 48, 3) := by decide +kernel
theorem d_AL_fastRemove_41 : decode prog_21_method_39_code 41 = .ok (.aconst_null, 1) := by decide +kernel
theorem d_AL_fastRemove_42 : decode prog_21_method_39_code 42 = .ok (.aastore, 1) := by decide +kernel
theorem d_AL_fastRemove_43 : decode prog_21_method_39_code 43 = .ok (.return_, 1) := by decide +kernel
theorem d_AL_get_0 : decode prog_21_method_20_code 0 = .ok (.iload_n 1, 1) := by decide +kernel
theorem d_AL_get_1 : decode prog_21_method_20_code 1 = .ok (.aload_n 0, 1) := by decide +kernel
theorem d_AL_get_2 : decode prog_21_method_20_code 2 = .ok (.getfield 48, 3) := by decide +kernel
theorem d_AL_get_5 : decode prog_21_method_20_code 5 = .ok (.invokestatic 118, 3) := by decide +kernel
theorem d_AL_get_8 : decode prog_21_method_20_code 8 = .ok (.pop, 1) := by decide +kernel
theorem d_AL_get_9 : decode prog_21_method_20_code 9 = .ok (.aload_n 0, 1) := by decide +kernel
theorem d_AL_get_10 : decode prog_21_method_20_code 10 = .ok (.iload_n 1, 1) := by decide +kernel
theorem d_AL_get_11 : decode prog_21_method_20_code 11 = .ok (.invokevirtual 123, 3) := by decide +kernel
theorem d_AL_get_14 : decode prog_21_method_20_code 14 = .ok (.areturn, 1) := by decide +kernel
theorem d_AL_grow_0 : decode prog_21_method_7_code 0 = .ok (.aload_n 0, 1) := by decide +kernel
theorem d_AL_grow_1 : decode prog_21_method_7_code 1 = .ok (.aload_n 0, 1) := by decide +kernel
theorem d_AL_grow_2 : decode prog_21_method_7_code 2 = .ok (.getfield 48, 3) := by decide +kernel
theorem d_AL_grow_5 : decode prog_21_method_7_code 5 = .ok (.iconst 1, 1) := by decide +kernel
theorem d_AL_grow_6 : decode prog_21_method_7_code 6 = .ok (.iadd, 1) := by decide +kernel
theorem d_AL_grow_7 : decode prog_21_method_7_code 7 = .ok (.invokevirtual 69, 3) := by decide +kernel
theorem d_AL_grow_10 : decode prog_21_method_7_code 10 = .ok (.areturn, 1) := by decide +kernel
theorem d_AL_grow1_0 : decode prog_21_method_6_code 0 = .ok (.aload_n 0, 1) := by decide +kernel
theorem d_AL_grow1_1 : decode prog_21_method_6_code 1 = .ok (.getfield 9, 3) := by decide +kernel
theorem d_AL_grow1_4 : decode prog_21_method_6_code 4 = .ok (.arraylength, 1) := by decide +kernel
theorem d_AL_grow1_5 : decode prog_21_method_6_code 5 = .ok (.istore_n 2, 1) := by decide +kernel
theorem d_AL_grow1_6 : decode prog_21_method_6_code 6 = .ok (.iload_n 2, 1) := by decide +kernel
theorem d_AL_grow1_7 : decode prog_21_method_6_code 7 = .ok (.ifCond .gt 13, 3) := by decide +kernel
theorem d_AL_grow1_10 : decode prog_21_method_6_code 10 = .ok (.aload_n 0, 1) := by decide +kernel
theorem d_AL_grow1_11 : decode prog_21_method_6_code 11 = .ok (.getfield 9, 3) := by decide +kernel
theorem d_AL_grow1_14 : decode prog_21_method_6_code 14 = .ok (.getstatic 39, 3) := by decide +kernel
theorem d_AL_grow1_17 : decode prog_21_method_6_code 17 = .ok (.if_acmp .eq 28, 3) := by decide +kernel
theorem d_AL_grow1_20 : decode prog_21_method_6_code 20 = .ok (.iload_n 2, 1) := by decide +kernel
theorem d_AL_grow1_21 : decode prog_21_method_6_code 21 = .ok (.iload_n 1, 1) := by decide +kernel
theorem d_AL_grow1_22 : decode prog_21_method_6_code 22 = .ok (.iload_n 2, 1) := by decide +kernel
theorem d_AL_grow1_23 : decode prog_21_method_6_code 23 = .ok (.isub, 1) := by decide +kernel
theorem d_AL_grow1_24 : decode prog_21_method_6_code 24 = .ok (.iload_n 2, 1) := by decide +kernel
theorem d_AL_grow1_25 : decode prog_21_method_6_code 25 = .ok (.iconst 1, 1) := by decide +kernel
theorem d_AL_grow1_26 : decode prog_21_method_6_code 26 = .ok (.ishr, 1) := by decide +kernel
theorem d_AL_grow1_27 : decode prog_21_method_6_code 27 = .ok (.invokestatic 73, 3) := by decide +kernel
theorem d_AL_grow1_30 : decode prog_21_method_6_code 30 = .ok (.istore_n 3, 1) := by decide +kernel
theorem d_AL_grow1_31 : decode prog_21_method_6_code 31 = .ok (.aload_n 0, 1) := by decide +kernel
theorem d_AL_grow1_32 : decode prog_21_method_6_code 32 = .ok (.aload_n 0, 1) := by decide +kernel
theorem d_AL_grow1_33 : decode prog_21_method_6_code 33 = .ok (.getfield 9, 3) := by decide +kernel
theorem d_AL_grow1_36 : decode prog_21_method_6_code 36 = .ok (.iload_n 3, 1) := by decide +kernel
theorem d_AL_grow1_37 : decode prog_21_method_6_code 37 = .ok (.invokestatic 66, 3) := by decide +kernel
theorem d_AL_grow1_40 : decode prog_21_method_6_code 40 = .ok (.dup_x1, 1) := by decide +kernel
theorem d_AL_grow1_41 : decode prog_21_method_6_code 41 = .ok (.putfield 9, 3) := by decide +kernel
theorem d_AL_grow1_44 : decode prog_21_method_6_code 44 = .ok (.areturn, 1) := by decide +kernel
theorem d_AL_grow1_45 : decode prog_21_method_6_code 45 = .ok (.aload_n 0, 1) := by decide +kernel
theorem d_AL_grow1_46 : decode prog_21_method_6_code 46 = .ok (.bipush 10, 2) := by decide +kernel
theorem d_AL_grow1_48 : decode prog_21_method_6_code 48 = .ok (.iload_n 1, 1) := by decide +kernel
theorem d_AL_grow1_49 : decode prog_21_method_6_code 49 = .ok (.invokestatic 79, 3) := by decide +kernel
theorem d_AL_grow1_52 : decode prog_21_method_6_code 52 = .ok (.anewarray 7, 3) := by decide +kernel
theorem d_AL_grow1_55 : decode prog_21_method_6_code 55 = .ok (.dup_x1, 1) := by decide +kernel
theorem d_AL_grow1_56 : decode prog_21_method_6_code 56 = .ok (.putfield 9, 3) := by decide +kernel
theorem d_AL_grow1_59 : decode prog_21_method_6_code 59 = .ok (.areturn, 1) := by decide +kernel
theorem d_AL_isEmpty_0 : decode prog_21_method_9_code 0 = .ok (.aload_n 0, 1) := by decide +kernel
theorem d_AL_isEmpty_1 : decode prog_21_method_9_code 1 = .ok (.getfield 48, 3) := by decide +kernel
theorem d_AL_isEmpty_4 : decode prog_21_method_9_code 4 = .ok (.ifCond .ne 7, 3) := by decide +kernel
theorem d_AL_isEmpty_7 : decode prog_21_method_9_code 7 = .ok (.iconst 1, 1) := by decide +kernel
theorem d_AL_isEmpty_8 : decode prog_21_method_9_code 8 = .ok (.goto 4, 3) := by decide +kernel
theorem d_AL_isEmpty_11 : decode prog_21_method_9_code 11 = .ok (.iconst 0, 1) := by decide +kernel
theorem d_AL_isEmpty_12 : decode prog_21_method_9_code 12 = .ok (.ireturn, 1) := by decide +kernel
theorem d_AL_remove_0 : decode prog_21_method_29_code 0 = .ok (.iload_n 1, 1) := by decide +kernel
theorem d_AL_remove_1 : decode prog_21_method_29_code 1 = .ok (.aload_n 0, 1) := by decide +kernel
theorem d_AL_remove_2 : decode prog_21_method_29_code 2 = .ok (.getfield 48, 3) := by decide +kernel
theorem d_AL_remove_5 : decode prog_21_method_29_code 5 = .ok (.invokestatic 118, 3) := by decide +kernel
theorem d_AL_remove_8 : decode prog_21_method_29_code 8 = .ok (.pop, 1) := by decide +kernel
theorem d_AL_remove_9 : decode prog_21_method_29_code 9 = .ok (.aload_n 0, 1) := by decide +kernel
theorem d_AL_remove_10 : decode prog_21_method_29_code 10 = .ok (.getfield 9, 3) := by decide +kernel
theorem d_AL_remove_13 : decode prog_21_method_29_code 13 = .ok (.astore_n 2, 1) := by decide +kernel
theorem d_AL_remove_14 : decode prog_21_method_29_code 14 = .ok (.aload_n 2, 1) := by decide +kernel
theorem d_AL_remove_15 : decode prog_21_method_29_code 15 = .ok (.iload_n 1, 1) := by decide +kernel
theorem d_AL_remove_16 : decode prog_21_method_29_code 16 = .ok (.aaload, 1) := by decide +kernel
theorem d_AL_remove_17 : decode prog_21_method_29_code 17 = .ok (.astore_n 3, 1) := by decide +kernel
theorem d_AL_remove_18 : decode prog_21_method_29_code 18 = .ok (.aload_n 0, 1) := by decide +kernel
theorem d_AL_remove_19 : decode prog_21_method_29_code 19 = .ok (.aload_n 2, 1) := by decide +kernel
theorem d_AL_remove_20 : decode prog_21_method_29_code 20 = .ok (.iload_n 1, 1) := by decide +kernel
theorem d_AL_remove_21 : decode prog_21_method_29_code 21 = .ok (.invokevirtual 144, 3) := by decide +kernel
theorem d_AL_remove_24 : decode prog_21_method_29_code 24 = .ok (.aload_n 3, 1) := by decide +kernel
theorem d_AL_remove_25 : decode prog_21_method_29_code 25 = .ok (.areturn, 1) := by decide +kernel
theorem d_AL_set_0 : decode prog_21_method_23_code 0 = .ok (.iload_n 1, 1) := by decide +kernel
theorem d_AL_set_1 : decode prog_21_method_23_code 1 = .ok (.aload_n 0, 1) := by decide +kernel
theorem d_AL_set_2 : decode prog_21_method_23_code 2 = .ok (.getfield 48, 3) := by decide +kernel
theorem d_AL_set_5 : decode prog_21_method_23_code 5 = .ok (.invokestatic 118, 3) := by decide +kernel
theorem d_AL_set_8 : decode prog_21_method_23_code 8 = .ok (.pop, 1) := by decide +kernel
theorem d_AL_set_9 : decode prog_21_method_23_code 9 = .ok (.aload_n 0, 1) := by decide +kernel
theorem d_AL_set_10 : decode prog_21_method_23_code 10 = .ok (.iload_n 1, 1) := by decide +kernel
theorem d_AL_set_11 : decode prog_21_method_23_code 11 = .ok (.invokevirtual 123, 3) := by decide +kernel
theorem d_AL_set_14 : decode prog_21_method_23_code 14 = .ok (.astore_n 3, 1) := by decide +kernel
theorem d_AL_set_15 : decode prog_21_method_23_code 15 = .ok (.aload_n 0, 1) := by decide +kernel
theorem d_AL_set_16 : decode prog_21_method_23_code 16 = .ok (.getfield 9, 3) := by decide +kernel
theorem d_AL_set_19 : decode prog_21_method_23_code 19 = .ok (.iload_n 1, 1) := by decide +kernel
theorem d_AL_set_20 : decode prog_21_method_23_code 20 = .ok (.aload_n 2, 1) := by decide +kernel
theorem d_AL_set_21 : decode prog_21_method_23_code 21 = .ok (.aastore, 1) := by decide +kernel
theorem d_AL_set_22 : decode prog_21_method_23_code 22 = .ok (.aload_n 3, 1) := by decide +kernel
theorem d_AL_set_23 : decode prog_21_method_23_code 23 = .ok (.areturn, 1) := by decide +kernel
theorem d_AL_size_0 : decode prog_21_method_8_code 0 = .ok (.aload_n 0, 1) := by decide +kernel
theorem d_AL_size_1 : decode prog_21_method_8_code 1 = .ok (.getfield 48, 3) := by decide +kernel
theorem d_AL_size_4 : decode prog_21_method_8_code 4 = .ok (.ireturn, 1) := by decide +kernel
theorem d_Ar_copyOf_0 : decode prog_22_method_119_code 0 = .ok (.aload_n 0, 1) := by decide +kernel
theorem d_Ar_copyOf_1 : decode prog_22_method_119_code 1 = .ok (.iload_n 1, 1) := by decide +kernel
theorem d_Ar_copyOf_2 : decode prog_22_method_119_code 2 = .ok (.aload_n 0, 1) := by decide +kernel
theorem d_Ar_copyOf_3 : decode prog_22_method_119_code 3 = .ok (.invokevirtual 86, 3) := by decide +kernel
theorem d_Ar_copyOf_6 : decode prog_22_method_119_code 6 = .ok (.invokestatic 300, 3) := by decide +kernel
theorem d_Ar_copyOf_9 : decode prog_22_method_119_code 9 = .ok (.areturn, 1) := by decide +kernel
theorem d_Ar_copyOf1_0 : decode prog_22_method_120_code 0 = .ok (.aload_n 2, 1) := by decide +kernel
theorem d_Ar_copyOf1_1 : decode prog_22_method_120_code 1 = .ok (.ldc 110, 2) := by decide +kernel
theorem d_Ar_copyOf1_3 : decode prog_22_method_120_code 3 = .ok (.if_acmp .ne 10, 3) := by decide +kernel
theorem d_Ar_copyOf1_6 : decode prog_22_method_120_code 6 = .ok (.iload_n 1, 1) := by decide +kernel
theorem d_Ar_copyOf1_7 : decode prog_22_method_120_code 7 = .ok (.anewarray 2, 3) := by decide +kernel
theorem d_Ar_copyOf1_10 : decode prog_22_method_120_code 10 = .ok (.goto 14, 3) := by decide +kernel
theorem d_Ar_copyOf1_13 : decode prog_22_method_120_code 13 = .ok (.aload_n 2, 1) := by decide +kernel
theorem d_Ar_copyOf1_14 : decode prog_22_method_120_code 14 = .ok (.invokevirtual 90, 3) := by decide +kernel
theorem d_Ar_copyOf1_17 : decode prog_22_method_120_code 17 = .ok (.iload_n 1, 1) := by decide +kernel
theorem d_Ar_copyOf1_18 : decode prog_22_method_120_code 18 = .ok (.invokestatic 95, 3) := by decide +kernel
theorem d_Ar_copyOf1_21 : decode prog_22_method_120_code 21 = .ok (.checkcast 110, 3) := by decide +kernel
theorem d_Ar_copyOf1_24 : decode prog_22_method_120_code 24 = .ok (.astore_n 3, 1) := by decide +kernel
theorem d_Ar_copyOf1_25 : decode prog_22_method_120_code 25 = .ok (.aload_n 0, 1) := by decide +kernel
theorem d_Ar_copyOf1_26 : decode prog_22_method_120_code 26 = .ok (.iconst 0, 1) := by decide +kernel
theorem d_Ar_copyOf1_27 : decode prog_22_method_120_code 27 = .ok (.aload_n 3, 1) := by decide +kernel
theorem d_Ar_copyOf1_28 : decode prog_22_method_120_code 28 = .ok (.iconst 0, 1) := by decide +kernel
theorem d_Ar_copyOf1_29 : decode prog_22_method_120_code 29 = .ok (.aload_n 0, 1) := by decide +kernel
theorem d_Ar_copyOf1_30 : decode prog_22_method_120_code 30 = .ok (.arraylength, 1) := by decide +kernel
theorem d_Ar_copyOf1_31 : decode prog_22_method_120_code 31 = .ok (.iload_n 1, 1) := by decide +kernel
theorem d_Ar_copyOf1_32 : decode prog_22_method_120_code 32 = .ok (.invokestatic 304, 3) := by decide +kernel
theorem d_Ar_copyOf1_35 : decode prog_22_method_120_code 35 = .ok (.invokestatic 150, 3) := by decide +kernel
theorem d_Ar_copyOf1_38 : decode prog_22_method_120_code 38 = .ok (.aload_n 3, 1) := by decide +kernel
theorem d_Ar_copyOf1_39 : decode prog_22_method_120_code 39 = .ok (.areturn, 1) := by decide +kernel
theorem d_Ob_checkIndex_0 : decode prog_25_method_17_code 0 = .ok (.iload_n 0, 1) := by decide +kernel
theorem d_Ob_checkIndex_1 : decode prog_25_method_17_code 1 = .ok (.iload_n 1, 1) := by decide +kernel
theorem d_Ob_checkIndex_2 : decode prog_25_method_17_code 2 = .ok (.aconst_null, 1) := by decide +kernel
theorem d_Ob_checkIndex_3 : decode prog_25_method_17_code 3 = .ok (.invokestatic 105, 3) := by decide +kernel
theorem d_Ob_checkIndex_6 : decode prog_25_method_17_code 6 = .ok (.ireturn, 1) := by decide +kernel
theorem d_AS_hugeLength_0 : decode prog_28_method_28_code 0 = .ok (.iload_n 0, 1) := by decide +kernel
theorem d_AS_hugeLength_1 : decode prog_28_method_28_code 1 = .ok (.iload_n 1, 1) := by decide +kernel
theorem d_AS_hugeLength_2 : decode prog_28_method_28_code 2 = .ok (.iadd, 1) := by decide +kernel
theorem d_AS_hugeLength_3 : decode prog_28_method_28_code 3 = .ok (.istore_n 2, 1) := by decide +kernel
theorem d_AS_hugeLength_4 : decode prog_28_method_28_code 4 = .ok (.iload_n 2, 1) := by decide +kernel
theorem d_AS_hugeLength_5 : decode prog_28_method_28_code 5 = .ok (.ifCond .ge 44, 3) := by decide +kernel
theorem d_AS_hugeLength_8 : decode prog_28_method_28_code 8 = .ok (.new 204, 3) := by decide +kernel
theorem d_AS_hugeLength_11 : decode prog_28_method_28_code 11 = .ok (.dup, 1) := by decide +kernel
theorem d_AS_hugeLength_12 : decode prog_28_method_28_code 12 = .ok (.new 89, 3) := by decide +kernel
theorem d_AS_hugeLength_15 : decode prog_28_method_28_code 15 = .ok (.dup, 1) := by decide +kernel
theorem d_AS_hugeLength_16 : decode prog_28_method_28_code 16 = .ok (.invokespecial 91, 3) := by decide +kernel
theorem d_AS_hugeLength_19 : decode prog_28_method_28_code 19 = .ok (.ldc 206, 2) := by decide +kernel
theorem d_AS_hugeLength_21 : decode prog_28_method_28_code 21 = .ok (.invokevirtual 94, 3) := by decide +kernel
theorem d_AS_hugeLength_24 : decode prog_28_method_28_code 24 = .ok (.iload_n 0, 1) := by decide +kernel
theorem d_AS_hugeLength_25 : decode prog_28_method_28_code 25 = .ok (.invokevirtual 98, 3) := by decide +kernel
theorem d_AS_hugeLength_28 : decode prog_28_method_28_code 28 = .ok (.ldc 208, 2) := by decide +kernel
theorem d_AS_hugeLength_30 : decode prog_28_method_28_code 30 = .ok (.invokevirtual 94, 3) := by decide +kernel
theorem d_AS_hugeLength_33 : decode prog_28_method_28_code 33 = .ok (.iload_n 1, 1) := by decide +kernel
theorem d_AS_hugeLength_34 : decode prog_28_method_28_code 34 = .ok (.invokevirtual 98, 3) := by decide +kernel
theorem d_AS_hugeLength_37 : decode prog_28_method_28_code 37 = .ok (.ldc 210, 2) := by decide +kernel
theorem d_AS_hugeLength_39 : decode prog_28_method_28_code 39 = .ok (.invokevirtual 94, 3) := by decide +kernel
theorem d_AS_hugeLength_42 : decode prog_28_method_28_code 42 = .ok (.invokevirtual 101, 3) := by decide +kernel
theorem d_AS_hugeLength_45 : decode prog_28_method_28_code 45 = .ok (.invokespecial 212, 3) := by decide +kernel
theorem d_AS_hugeLength_48 : decode prog_28_method_28_code 48 = .ok (.athrow, 1) := by decide +kernel
theorem d_AS_hugeLength_49 : decode prog_28_method_28_code 49 = .ok (.iload_n 2, 1) := by decide +kernel
theorem d_AS_hugeLength_50 : decode prog_28_method_28_code 50 = .ok (.ldc 200, 2) := by decide +kernel
theorem d_AS_hugeLength_52 : decode prog_28_method_28_code 52 = .ok (.if_icmp .gt 6, 3) := by decide +kernel
theorem d_AS_hugeLength_55 : decode prog_28_method_28_code 55 = .ok (.ldc 200, 2) := by decide +kernel
theorem d_AS_hugeLength_57 : decode prog_28_method_28_code 57 = .ok (.ireturn, 1) := by decide +kernel
theorem d_AS_hugeLength_58 : decode prog_28_method_28_code 58 = .ok (.iload_n 2, 1) := by decide +kernel
theorem d_AS_hugeLength_59 : decode prog_28_method_28_code 59 = .ok (.ireturn, 1) := by decide +kernel
theorem d_AS_newLength_0 : decode prog_28_method_27_code 0 = .ok (.iload_n 0, 1) := by decide +kernel
theorem d_AS_newLength_1 : decode prog_28_method_27_code 1 = .ok (.iload_n 1, 1) := by decide +kernel
theorem d_AS_newLength_2 : decode prog_28_method_27_code 2 = .ok (.iload_n 2, 1) := by decide +kernel
theorem d_AS_newLength_3 : decode prog_28_method_27_code 3 = .ok (.invokestatic 194, 3) := by decide +kernel
theorem d_AS_newLength_6 : decode prog_28_method_27_code 6 = .ok (.iadd, 1) := by decide +kernel
theorem d_AS_newLength_7 : decode prog_28_method_27_code 7 = .ok (.istore_n 3, 1) := by decide +kernel
theorem d_AS_newLength_8 : decode prog_28_method_27_code 8 = .ok (.iconst 0, 1) := by decide +kernel
theorem d_AS_newLength_9 : decode prog_28_method_27_code 9 = .ok (.iload_n 3, 1) := by decide +kernel
theorem d_AS_newLength_10 : decode prog_28_method_27_code 10 = .ok (.if_icmp .ge 11, 3) := by decide +kernel
theorem d_AS_newLength_13 : decode prog_28_method_27_code 13 = .ok (.iload_n 3, 1) := by decide +kernel
theorem d_AS_newLength_14 : decode prog_28_method_27_code 14 = .ok (.ldc 200, 2) := by decide +kernel
theorem d_AS_newLength_16 : decode prog_28_method_27_code 16 = .ok (.if_icmp .gt 5, 3) := by decide +kernel
theorem d_AS_newLength_19 : decode prog_28_method_27_code 19 = .ok (.iload_n 3, 1) := by decide +kernel
theorem d_AS_newLength_20 : decode prog_28_method_27_code 20 = .ok (.ireturn, 1) := by decide +kernel
theorem d_AS_newLength_21 : decode prog_28_method_27_code 21 = .ok (.iload_n 0, 1) := by decide +kernel
theorem d_AS_newLength_22 : decode prog_28_method_27_code 22 = .ok (.iload_n 1, 1) := by decide +kernel
theorem d_AS_newLength_23 : decode prog_28_method_27_code 23 = .ok (.invokestatic 201, 3) := by decide +kernel
theorem d_AS_newLength_26 : decode prog_28_method_27_code 26 = .ok (.ireturn, 1) := by decide +kernel
theorem d_Pre_checkIndex_0 : decode prog_29_method_11_code 0 = .ok (.iload_n 0, 1) := by decide +kernel
theorem d_Pre_checkIndex_1 : decode prog_29_method_11_code 1 = .ok (.ifCond .lt 8, 3) := by decide +kernel
theorem d_Pre_checkIndex_4 : decode prog_29_method_11_code 4 = .ok (.iload_n 0, 1) := by decide +kernel
theorem d_Pre_checkIndex_5 : decode prog_29_method_11_code 5 = .ok (.iload_n 1, 1) := by decide +kernel
theorem d_Pre_checkIndex_6 : decode prog_29_method_11_code 6 = .ok (.if_icmp .lt 10, 3) := by decide +kernel
theorem d_Pre_checkIndex_9 : decode prog_29_method_11_code 9 = .ok (.aload_n 2, 1) := by decide +kernel
theorem d_Pre_checkIndex_10 : decode prog_29_method_11_code 10 = .ok (.iload_n 0, 1) := by decide +kernel
theorem d_Pre_checkIndex_11 : decode prog_29_method_11_code 11 = .ok (.iload_n 1, 1) := by decide +kernel
theorem d_Pre_checkIndex_12 : decode prog_29_method_11_code 12 = .ok (.invokestatic 95, 3) := by decide +kernel
theorem d_Pre_checkIndex_15 : decode prog_29_method_11_code 15 = .ok (.athrow, 1) := by decide +kernel
theorem d_Pre_checkIndex_16 : decode prog_29_method_11_code 16 = .ok (.iload_n 0, 1) := by decide +kernel
theorem d_Pre_checkIndex_17 : decode prog_29_method_11_code 17 = .ok (.ireturn, 1) := by decide +kernel
end
section
theorem d_LW_law_0 : decode code 0 = .ok (.new 7, 3) := by decide +kernel
theorem d_LW_law_3 : decode code 3 = .ok (.dup, 1) := by decide +kernel
theorem d_LW_law_4 : decode code 4 = .ok (.invokespecial 9, 3) := by decide +kernel
theorem d_LW_law_7 : decode code 7 = .ok (.astore_n 1, 1) := by decide +kernel
theorem d_LW_law_8 : decode code 8 = .ok (.new 10, 3) := by decide +kernel
theorem d_LW_law_11 : decode code 11 = .ok (.dup, 1) := by decide +kernel
theorem d_LW_law_12 : decode code 12 = .ok (.invokespecial 12, 3) := by decide +kernel
theorem d_LW_law_15 : decode code 15 = .ok (.astore_n 2, 1) := by decide +kernel
theorem d_LW_law_16 : decode code 16 = .ok (.iconst 0, 1) := by decide +kernel
theorem d_LW_law_17 : decode code 17 = .ok (.istore_n 3, 1) := by decide +kernel
theorem d_LW_law_18 : decode code 18 = .ok (.iload_n 3, 1) := by decide +kernel
theorem d_LW_law_19 : decode code 19 = .ok (.aload_n 0, 1) := by decide +kernel
theorem d_LW_law_20 : decode code 20 = .ok (.arraylength, 1) := by decide +kernel
theorem d_LW_law_21 : decode code 21 = .ok (.bipush 6, 2) := by decide +kernel
theorem d_LW_law_23 : decode code 23 = .ok (.isub, 1) := by decide +kernel
theorem d_LW_law_24 : decode code 24 = .ok (.if_icmp .gt 696, 3) := by decide +kernel
theorem d_LW_law_27 : decode code 27 = .ok (.aload_n 0, 1) := by decide +kernel
theorem d_LW_law_28 : decode code 28 = .ok (.iload_n 3, 1) := by decide +kernel
theorem d_LW_law_29 : decode code 29 = .ok (.iaload, 1) := by decide +kernel
theorem d_LW_law_30 : decode code 30 = .ok (.bipush 31, 2) := by decide +kernel
theorem d_LW_law_32 : decode code 32 = .ok (.iand, 1) := by decide +kernel
theorem d_LW_law_33 : decode code 33 = .ok (.tableswitch 681 0 18 #[91, 154, 203, 238, 249, 348, 381, 394, 417, 440, 463, 486, 509, 532, 565, 598, 622, 645, 668], 91) := by decide +kernel
theorem d_LW_law_124 : decode code 124 = .ok (.aload_n 1, 1) := by decide +kernel
theorem d_LW_law_125 : decode code 125 = .ok (.aload_n 0, 1) := by decide +kernel
theorem d_LW_law_126 : decode code 126 = .ok (.iload_n 3, 1) := by decide +kernel
theorem d_LW_law_127 : decode code 127 = .ok (.iconst 1, 1) := by decide +kernel
theorem d_LW_law_128 : decode code 128 = .ok (.iadd, 1) := by decide +kernel
theorem d_LW_law_129 : decode code 129 = .ok (.iaload, 1) := by decide +kernel
theorem d_LW_law_130 : decode code 130 = .ok (.aload_n 0, 1) := by decide +kernel
theorem d_LW_law_131 : decode code 131 = .ok (.iload_n 3, 1) := by decide +kernel
theorem d_LW_law_132 : decode code 132 = .ok (.iconst 2, 1) := by decide +kernel
theorem d_LW_law_133 : decode code 133 = .ok (.iadd, 1) := by decide +kernel
theorem d_LW_law_134 : decode code 134 = .ok (.iaload, 1) := by decide +kernel
theorem d_LW_law_135 : decode code 135 = .ok (.i2l, 1) := by decide +kernel
theorem d_LW_law_136 : decode code 136 = .ok (.bipush 32, 2) := by decide +kernel
theorem d_LW_law_138 : decode code 138 = .ok (.lshl, 1) := by decide +kernel
theorem d_LW_law_139 : decode code 139 = .ok (.aload_n 0, 1) := by decide +kernel
theorem d_LW_law_140 : decode code 140 = .ok (.iload_n 3, 1) := by decide +kernel
theorem d_LW_law_141 : decode code 141 = .ok (.iconst 3, 1) := by decide +kernel
theorem d_LW_law_142 : decode code 142 = .ok (.iadd, 1) := by decide +kernel
theorem d_LW_law_143 : decode code 143 = .ok (.iaload, 1) := by decide +kernel
theorem d_LW_law_144 : decode code 144 = .ok (.i2l, 1) := by decide +kernel
theorem d_LW_law_145 : decode code 145 = .ok (.ldc2_w 13, 3) := by decide +kernel
theorem d_LW_law_148 : decode code 148 = .ok (.land, 1) := by decide +kernel
theorem d_LW_law_149 : decode code 149 = .ok (.lor, 1) := by decide +kernel
theorem d_LW_law_150 : decode code 150 = .ok (.invokevirtual 15, 3) := by decide +kernel
theorem d_LW_law_153 : decode code 153 = .ok (.aload_n 2, 1) := by decide +kernel
theorem d_LW_law_154 : decode code 154 = .ok (.aload_n 0, 1) := by decide +kernel
theorem d_LW_law_155 : decode code 155 = .ok (.iload_n 3, 1) := by decide +kernel
theorem d_LW_law_156 : decode code 156 = .ok (.iconst 1, 1) := by decide +kernel
theorem d_LW_law_157 : decode code 157 = .ok (.iadd, 1) := by decide +kernel
theorem d_LW_law_158 : decode code 158 = .ok (.iaload, 1) := by decide +kernel
theorem d_LW_law_159 : decode code 159 = .ok (.aload_n 0, 1) := by decide +kernel
theorem d_LW_law_160 : decode code 160 = .ok (.iload_n 3, 1) := by decide +kernel
theorem d_LW_law_161 : decode code 161 = .ok (.iconst 2, 1) := by decide +kernel
theorem d_LW_law_162 : decode code 162 = .ok (.iadd, 1) := by decide +kernel
theorem d_LW_law_163 : decode code 163 = .ok (.iaload, 1) := by decide +kernel
theorem d_LW_law_164 : decode code 164 = .ok (.i2l, 1) := by decide +kernel
theorem d_LW_law_165 : decode code 165 = .ok (.bipush 32, 2) := by decide +kernel
theorem d_LW_law_167 : decode code 167 = .ok (.lshl, 1) := by decide +kernel
theorem d_LW_law_168 : decode code 168 = .ok (.aload_n 0, 1) := by decide +kernel
theorem d_LW_law_169 : decode code 169 = .ok (.iload_n 3, 1) := by decide +kernel
theorem d_LW_law_170 : decode code 170 = .ok (.iconst 3, 1) := by decide +kernel
theorem d_LW_law_171 : decode code 171 = .ok (.iadd, 1) := by decide +kernel
theorem d_LW_law_172 : decode code 172 = .ok (.iaload, 1) := by decide +kernel
theorem d_LW_law_173 : decode code 173 = .ok (.i2l, 1) := by decide +kernel
theorem d_LW_law_174 : decode code 174 = .ok (.ldc2_w 13, 3) := by decide +kernel
theorem d_LW_law_177 : decode code 177 = .ok (.land, 1) := by decide +kernel
theorem d_LW_law_178 : decode code 178 = .ok (.lor, 1) := by decide +kernel
theorem d_LW_law_179 : decode code 179 = .ok (.invokevirtual 19, 3) := by decide +kernel
theorem d_LW_law_182 : decode code 182 = .ok (.if_icmp .eq 532, 3) := by decide +kernel
theorem d_LW_law_185 : decode code 185 = .ok (.iconst 0, 1) := by decide +kernel
theorem d_LW_law_186 : decode code 186 = .ok (.ireturn, 1) := by decide +kernel
theorem d_LW_law_187 : decode code 187 = .ok (.aload_n 1, 1) := by decide +kernel
theorem d_LW_law_188 : decode code 188 = .ok (.aload_n 0, 1) := by decide +kernel
theorem d_LW_law_189 : decode code 189 = .ok (.iload_n 3, 1) := by decide +kernel
theorem d_LW_law_190 : decode code 190 = .ok (.iconst 1, 1) := by decide +kernel
theorem d_LW_law_191 : decode code 191 = .ok (.iadd, 1) := by decide +kernel
theorem d_LW_law_192 : decode code 192 = .ok (.iaload, 1) := by decide +kernel
theorem d_LW_law_193 : decode code 193 = .ok (.aload_n 0, 1) := by decide +kernel
theorem d_LW_law_194 : decode code 194 = .ok (.iload_n 3, 1) := by decide +kernel
theorem d_LW_law_195 : decode code 195 = .ok (.iconst 2, 1) := by decide +kernel
theorem d_LW_law_196 : decode code 196 = .ok (.iadd, 1) := by decide +kernel
theorem d_LW_law_197 : decode code 197 = .ok (.iaload, 1) := by decide +kernel
theorem d_LW_law_198 : decode code 198 = .ok (.ifCond .eq 7, 3) := by decide +kernel
theorem d_LW_law_201 : decode code 201 = .ok (.iconst 1, 1) := by decide +kernel
theorem d_LW_law_202 : decode code 202 = .ok (.goto 4, 3) := by decide +kernel
theorem d_LW_law_205 : decode code 205 = .ok (.iconst 0, 1) := by decide +kernel
theorem d_LW_law_206 : decode code 206 = .ok (.invokevirtual 20, 3) := by decide +kernel
theorem d_LW_law_209 : decode code 209 = .ok (.aload_n 2, 1) := by decide +kernel
theorem d_LW_law_210 : decode code 210 = .ok (.aload_n 0, 1) := by decide +kernel
theorem d_LW_law_211 : decode code 211 = .ok (.iload_n 3, 1) := by decide +kernel
theorem d_LW_law_212 : decode code 212 = .ok (.iconst 1, 1) := by decide +kernel
theorem d_LW_law_213 : decode code 213 = .ok (.iadd, 1) := by decide +kernel
theorem d_LW_law_214 : decode code 214 = .ok (.iaload, 1) := by decide +kernel
theorem d_LW_law_215 : decode code 215 = .ok (.aload_n 0, 1) := by decide +kernel
theorem d_LW_law_216 : decode code 216 = .ok (.iload_n 3, 1) := by decide +kernel
theorem d_LW_law_217 : decode code 217 = .ok (.iconst 2, 1) := by decide +kernel
theorem d_LW_law_218 : decode code 218 = .ok (.iadd, 1) := by decide +kernel
theorem d_LW_law_219 : decode code 219 = .ok (.iaload, 1) := by decide +kernel
theorem d_LW_law_220 : decode code 220 = .ok (.ifCond .eq 7, 3) := by decide +kernel
theorem d_LW_law_223 : decode code 223 = .ok (.iconst 1, 1) := by decide +kernel
theorem d_LW_law_224 : decode code 224 = .ok (.goto 4, 3) := by decide +kernel
theorem d_LW_law_227 : decode code 227 = .ok (.iconst 0, 1) := by decide +kernel
theorem d_LW_law_228 : decode code 228 = .ok (.invokevirtual 24, 3) := by decide +kernel
theorem d_LW_law_231 : decode code 231 = .ok (.if_icmp .eq 483, 3) := by decide +kernel
theorem d_LW_law_234 : decode code 234 = .ok (.iconst 0, 1) := by decide +kernel
theorem d_LW_law_235 : decode code 235 = .ok (.ireturn, 1) := by decide +kernel
theorem d_LW_law_236 : decode code 236 = .ok (.aload_n 1, 1) := by decide +kernel
theorem d_LW_law_237 : decode code 237 = .ok (.aload_n 0, 1) := by decide +kernel
theorem d_LW_law_238 : decode code 238 = .ok (.iload_n 3, 1) := by decide +kernel
theorem d_LW_law_239 : decode code 239 = .ok (.iconst 1, 1) := by decide +kernel
theorem d_LW_law_240 : decode code 240 = .ok (.iadd, 1) := by decide +kernel
theorem d_LW_law_241 : decode code 241 = .ok (.iaload, 1) := by decide +kernel
theorem d_LW_law_242 : decode code 242 = .ok (.i2c, 1) := by decide +kernel
theorem d_LW_law_243 : decode code 243 = .ok (.aload_n 0, 1) := by decide +kernel
theorem d_LW_law_244 : decode code 244 = .ok (.iload_n 3, 1) := by decide +kernel
theorem d_LW_law_245 : decode code 245 = .ok (.iconst 2, 1) := by decide +kernel
theorem d_LW_law_246 : decode code 246 = .ok (.iadd, 1) := by decide +kernel
theorem d_LW_law_247 : decode code 247 = .ok (.iaload, 1) := by decide +kernel
theorem d_LW_law_248 : decode code 248 = .ok (.invokevirtual 25, 3) := by decide +kernel
theorem d_LW_law_251 : decode code 251 = .ok (.aload_n 2, 1) := by decide +kernel
theorem d_LW_law_252 : decode code 252 = .ok (.aload_n 0, 1) := by decide +kernel
theorem d_LW_law_253 : decode code 253 = .ok (.iload_n 3, 1) := by decide +kernel
theorem d_LW_law_254 : decode code 254 = .ok (.iconst 1, 1) := by decide +kernel
theorem d_LW_law_255 : decode code 255 = .ok (.iadd, 1) := by decide +kernel
theorem d_LW_law_256 : decode code 256 = .ok (.iaload, 1) := by decide +kernel
theorem d_LW_law_257 : decode code 257 = .ok (.i2c, 1) := by decide +kernel
theorem d_LW_law_258 : decode code 258 = .ok (.aload_n 0, 1) := by decide +kernel
theorem d_LW_law_259 : decode code 259 = .ok (.iload_n 3, 1) := by decide +kernel
theorem d_LW_law_260 : decode code 260 = .ok (.iconst 2, 1) := by decide +kernel
theorem d_LW_law_261 : decode code 261 = .ok (.iadd, 1) := by decide +kernel
theorem d_LW_law_262 : decode code 262 = .ok (.iaload, 1) := by decide +kernel
theorem d_LW_law_263 : decode code 263 = .ok (.invokevirtual 29, 3) := by decide +kernel
theorem d_LW_law_266 : decode code 266 = .ok (.if_icmp .eq 448, 3) := by decide +kernel
theorem d_LW_law_269 : decode code 269 = .ok (.iconst 0, 1) := by decide +kernel
theorem d_LW_law_270 : decode code 270 = .ok (.ireturn, 1) := by decide +kernel
theorem d_LW_law_271 : decode code 271 = .ok (.aload_n 1, 1) := by decide +kernel
theorem d_LW_law_272 : decode code 272 = .ok (.invokevirtual 30, 3) := by decide +kernel
theorem d_LW_law_275 : decode code 275 = .ok (.aload_n 2, 1) := by decide +kernel
theorem d_LW_law_276 : decode code 276 = .ok (.invokevirtual 33, 3) := by decide +kernel
theorem d_LW_law_279 : decode code 279 = .ok (.goto 435, 3) := by decide +kernel
theorem d_LW_law_282 : decode code 282 = .ok (.aload_n 1, 1) := by decide +kernel
theorem d_LW_law_283 : decode code 283 = .ok (.aload_n 0, 1) := by decide +kernel
theorem d_LW_law_284 : decode code 284 = .ok (.iload_n 3, 1) := by decide +kernel
theorem d_LW_law_285 : decode code 285 = .ok (.iconst 1, 1) := by decide +kernel
theorem d_LW_law_286 : decode code 286 = .ok (.iadd, 1) := by decide +kernel
theorem d_LW_law_287 : decode code 287 = .ok (.iaload, 1) := by decide +kernel
theorem d_LW_law_288 : decode code 288 = .ok (.aload_n 0, 1) := by decide +kernel
theorem d_LW_law_289 : decode code 289 = .ok (.iload_n 3, 1) := by decide +kernel
theorem d_LW_law_290 : decode code 290 = .ok (.iconst 2, 1) := by decide +kernel
theorem d_LW_law_291 : decode code 291 = .ok (.iadd, 1) := by decide +kernel
theorem d_LW_law_292 : decode code 292 = .ok (.iaload, 1) := by decide +kernel
theorem d_LW_law_293 : decode code 293 = .ok (.i2l, 1) := by decide +kernel
theorem d_LW_law_294 : decode code 294 = .ok (.bipush 32, 2) := by decide +kernel
theorem d_LW_law_296 : decode code 296 = .ok (.lshl, 1) := by decide +kernel
theorem d_LW_law_297 : decode code 297 = .ok (.aload_n 0, 1) := by decide +kernel
theorem d_LW_law_298 : decode code 298 = .ok (.iload_n 3, 1) := by decide +kernel
theorem d_LW_law_299 : decode code 299 = .ok (.iconst 3, 1) := by decide +kernel
theorem d_LW_law_300 : decode code 300 = .ok (.iadd, 1) := by decide +kernel
theorem d_LW_law_301 : decode code 301 = .ok (.iaload, 1) := by decide +kernel
theorem d_LW_law_302 : decode code 302 = .ok (.i2l, 1) := by decide +kernel
theorem d_LW_law_303 : decode code 303 = .ok (.ldc2_w 13, 3) := by decide +kernel
theorem d_LW_law_306 : decode code 306 = .ok (.land, 1) := by decide +kernel
theorem d_LW_law_307 : decode code 307 = .ok (.lor, 1) := by decide +kernel
theorem d_LW_law_308 : decode code 308 = .ok (.aload_n 0, 1) := by decide +kernel
theorem d_LW_law_309 : decode code 309 = .ok (.iload_n 3, 1) := by decide +kernel
theorem d_LW_law_310 : decode code 310 = .ok (.iconst 4, 1) := by decide +kernel
theorem d_LW_law_311 : decode code 311 = .ok (.iadd, 1) := by decide +kernel
theorem d_LW_law_312 : decode code 312 = .ok (.iaload, 1) := by decide +kernel
theorem d_LW_law_313 : decode code 313 = .ok (.aload_n 0, 1) := by decide +kernel
theorem d_LW_law_314 : decode code 314 = .ok (.iload_n 3, 1) := by decide +kernel
theorem d_LW_law_315 : decode code 315 = .ok (.iconst 5, 1) := by decide +kernel
theorem d_LW_law_316 : decode code 316 = .ok (.iadd, 1) := by decide +kernel
theorem d_LW_law_317 : decode code 317 = .ok (.iaload, 1) := by decide +kernel
theorem d_LW_law_318 : decode code 318 = .ok (.ifCond .eq 7, 3) := by decide +kernel
theorem d_LW_law_321 : decode code 321 = .ok (.iconst 1, 1) := by decide +kernel
theorem d_LW_law_322 : decode code 322 = .ok (.goto 4, 3) := by decide +kernel
theorem d_LW_law_325 : decode code 325 = .ok (.iconst 0, 1) := by decide +kernel
theorem d_LW_law_326 : decode code 326 = .ok (.invokevirtual 34, 3) := by decide +kernel
theorem d_LW_law_329 : decode code 329 = .ok (.aload_n 2, 1) := by decide +kernel
theorem d_LW_law_330 : decode code 330 = .ok (.aload_n 0, 1) := by decide +kernel
theorem d_LW_law_331 : decode code 331 = .ok (.iload_n 3, 1) := by decide +kernel
theorem d_LW_law_332 : decode code 332 = .ok (.iconst 1, 1) := by decide +kernel
theorem d_LW_law_333 : decode code 333 = .ok (.iadd, 1) := by decide +kernel
theorem d_LW_law_334 : decode code 334 = .ok (.iaload, 1) := by decide +kernel
theorem d_LW_law_335 : decode code 335 = .ok (.aload_n 0, 1) := by decide +kernel
theorem d_LW_law_336 : decode code 336 = .ok (.iload_n 3, 1) := by decide +kernel
theorem d_LW_law_337 : decode code 337 = .ok (.iconst 2, 1) := by decide +kernel
theorem d_LW_law_338 : decode code 338 = .ok (.iadd, 1) := by decide +kernel
theorem d_LW_law_339 : decode code 339 = .ok (.iaload, 1) := by decide +kernel
theorem d_LW_law_340 : decode code 340 = .ok (.i2l, 1) := by decide +kernel
theorem d_LW_law_341 : decode code 341 = .ok (.bipush 32, 2) := by decide +kernel
theorem d_LW_law_343 : decode code 343 = .ok (.lshl, 1) := by decide +kernel
theorem d_LW_law_344 : decode code 344 = .ok (.aload_n 0, 1) := by decide +kernel
theorem d_LW_law_345 : decode code 345 = .ok (.iload_n 3, 1) := by decide +kernel
theorem d_LW_law_346 : decode code 346 = .ok (.iconst 3, 1) := by decide +kernel
theorem d_LW_law_347 : decode code 347 = .ok (.iadd, 1) := by decide +kernel
theorem d_LW_law_348 : decode code 348 = .ok (.iaload, 1) := by decide +kernel
theorem d_LW_law_349 : decode code 349 = .ok (.i2l, 1) := by decide +kernel
theorem d_LW_law_350 : decode code 350 = .ok (.ldc2_w 13, 3) := by decide +kernel
theorem d_LW_law_353 : decode code 353 = .ok (.land, 1) := by decide +kernel
theorem d_LW_law_354 : decode code 354 = .ok (.lor, 1) := by decide +kernel
theorem d_LW_law_355 : decode code 355 = .ok (.aload_n 0, 1) := by decide +kernel
theorem d_LW_law_356 : decode code 356 = .ok (.iload_n 3, 1) := by decide +kernel
theorem d_LW_law_357 : decode code 357 = .ok (.iconst 4, 1) := by decide +kernel
theorem d_LW_law_358 : decode code 358 = .ok (.iadd, 1) := by decide +kernel
theorem d_LW_law_359 : decode code 359 = .ok (.iaload, 1) := by decide +kernel
theorem d_LW_law_360 : decode code 360 = .ok (.aload_n 0, 1) := by decide +kernel
theorem d_LW_law_361 : decode code 361 = .ok (.iload_n 3, 1) := by decide +kernel
theorem d_LW_law_362 : decode code 362 = .ok (.iconst 5, 1) := by decide +kernel
theorem d_LW_law_363 : decode code 363 = .ok (.iadd, 1) := by decide +kernel
theorem d_LW_law_364 : decode code 364 = .ok (.iaload, 1) := by decide +kernel
theorem d_LW_law_365 : decode code 365 = .ok (.ifCond .eq 7, 3) := by decide +kernel
theorem d_LW_law_368 : decode code 368 = .ok (.iconst 1, 1) := by decide +kernel
theorem d_LW_law_369 : decode code 369 = .ok (.goto 4, 3) := by decide +kernel
theorem d_LW_law_372 : decode code 372 = .ok (.iconst 0, 1) := by decide +kernel
theorem d_LW_law_373 : decode code 373 = .ok (.invokevirtual 38, 3) := by decide +kernel
theorem d_LW_law_376 : decode code 376 = .ok (.if_icmp .eq 338, 3) := by decide +kernel
theorem d_LW_law_379 : decode code 379 = .ok (.iconst 0, 1) := by decide +kernel
theorem d_LW_law_380 : decode code 380 = .ok (.ireturn, 1) := by decide +kernel
theorem d_LW_law_381 : decode code 381 = .ok (.aload_n 1, 1) := by decide +kernel
theorem d_LW_law_382 : decode code 382 = .ok (.aload_n 0, 1) := by decide +kernel
theorem d_LW_law_383 : decode code 383 = .ok (.iload_n 3, 1) := by decide +kernel
theorem d_LW_law_384 : decode code 384 = .ok (.iconst 1, 1) := by decide +kernel
theorem d_LW_law_385 : decode code 385 = .ok (.iadd, 1) := by decide +kernel
theorem d_LW_law_386 : decode code 386 = .ok (.iaload, 1) := by decide +kernel
theorem d_LW_law_387 : decode code 387 = .ok (.aload_n 0, 1) := by decide +kernel
theorem d_LW_law_388 : decode code 388 = .ok (.iload_n 3, 1) := by decide +kernel
theorem d_LW_law_389 : decode code 389 = .ok (.iconst 2, 1) := by decide +kernel
theorem d_LW_law_390 : decode code 390 = .ok (.iadd, 1) := by decide +kernel
theorem d_LW_law_391 : decode code 391 = .ok (.iaload, 1) := by decide +kernel
theorem d_LW_law_392 : decode code 392 = .ok (.invokevirtual 39, 3) := by decide +kernel
theorem d_LW_law_395 : decode code 395 = .ok (.aload_n 2, 1) := by decide +kernel
theorem d_LW_law_396 : decode code 396 = .ok (.aload_n 0, 1) := by decide +kernel
theorem d_LW_law_397 : decode code 397 = .ok (.iload_n 3, 1) := by decide +kernel
theorem d_LW_law_398 : decode code 398 = .ok (.iconst 1, 1) := by decide +kernel
theorem d_LW_law_399 : decode code 399 = .ok (.iadd, 1) := by decide +kernel
theorem d_LW_law_400 : decode code 400 = .ok (.iaload, 1) := by decide +kernel
theorem d_LW_law_401 : decode code 401 = .ok (.aload_n 0, 1) := by decide +kernel
theorem d_LW_law_402 : decode code 402 = .ok (.iload_n 3, 1) := by decide +kernel
theorem d_LW_law_403 : decode code 403 = .ok (.iconst 2, 1) := by decide +kernel
theorem d_LW_law_404 : decode code 404 = .ok (.iadd, 1) := by decide +kernel
theorem d_LW_law_405 : decode code 405 = .ok (.iaload, 1) := by decide +kernel
theorem d_LW_law_406 : decode code 406 = .ok (.invokevirtual 43, 3) := by decide +kernel
theorem d_LW_law_409 : decode code 409 = .ok (.if_icmp .eq 305, 3) := by decide +kernel
theorem d_LW_law_412 : decode code 412 = .ok (.iconst 0, 1) := by decide +kernel
theorem d_LW_law_413 : decode code 413 = .ok (.ireturn, 1) := by decide +kernel
theorem d_LW_law_414 : decode code 414 = .ok (.aload_n 1, 1) := by decide +kernel
theorem d_LW_law_415 : decode code 415 = .ok (.invokevirtual 44, 3) := by decide +kernel
theorem d_LW_law_418 : decode code 418 = .ok (.aload_n 2, 1) := by decide +kernel
theorem d_LW_law_419 : decode code 419 = .ok (.invokevirtual 48, 3) := by decide +kernel
theorem d_LW_law_422 : decode code 422 = .ok (.if_icmp .eq 292, 3) := by decide +kernel
theorem d_LW_law_425 : decode code 425 = .ok (.iconst 0, 1) := by decide +kernel
theorem d_LW_law_426 : decode code 426 = .ok (.ireturn, 1) := by decide +kernel
theorem d_LW_law_427 : decode code 427 = .ok (.aload_n 1, 1) := by decide +kernel
theorem d_LW_law_428 : decode code 428 = .ok (.aload_n 0, 1) := by decide +kernel
theorem d_LW_law_429 : decode code 429 = .ok (.iload_n 3, 1) := by decide +kernel
theorem d_LW_law_430 : decode code 430 = .ok (.iconst 1, 1) := by decide +kernel
theorem d_LW_law_431 : decode code 431 = .ok (.iadd, 1) := by decide +kernel
theorem d_LW_law_432 : decode code 432 = .ok (.iaload, 1) := by decide +kernel
theorem d_LW_law_433 : decode code 433 = .ok (.invokevirtual 49, 3) := by decide +kernel
theorem d_LW_law_436 : decode code 436 = .ok (.aload_n 2, 1) := by decide +kernel
theorem d_LW_law_437 : decode code 437 = .ok (.aload_n 0, 1) := by decide +kernel
theorem d_LW_law_438 : decode code 438 = .ok (.iload_n 3, 1) := by decide +kernel
theorem d_LW_law_439 : decode code 439 = .ok (.iconst 1, 1) := by decide +kernel
theorem d_LW_law_440 : decode code 440 = .ok (.iadd, 1) := by decide +kernel
theorem d_LW_law_441 : decode code 441 = .ok (.iaload, 1) := by decide +kernel
theorem d_LW_law_442 : decode code 442 = .ok (.invokevirtual 53, 3) := by decide +kernel
theorem d_LW_law_445 : decode code 445 = .ok (.if_icmp .eq 269, 3) := by decide +kernel
theorem d_LW_law_448 : decode code 448 = .ok (.iconst 0, 1) := by decide +kernel
theorem d_LW_law_449 : decode code 449 = .ok (.ireturn, 1) := by decide +kernel
theorem d_LW_law_450 : decode code 450 = .ok (.aload_n 1, 1) := by decide +kernel
theorem d_LW_law_451 : decode code 451 = .ok (.aload_n 0, 1) := by decide +kernel
theorem d_LW_law_452 : decode code 452 = .ok (.iload_n 3, 1) := by decide +kernel
theorem d_LW_law_453 : decode code 453 = .ok (.iconst 1, 1) := by decide +kernel
theorem d_LW_law_454 : decode code 454 = .ok (.iadd, 1) := by decide +kernel
theorem d_LW_law_455 : decode code 455 = .ok (.iaload, 1) := by decide +kernel
theorem d_LW_law_456 : decode code 456 = .ok (.invokevirtual 54, 3) := by decide +kernel
theorem d_LW_law_459 : decode code 459 = .ok (.aload_n 2, 1) := by decide +kernel
theorem d_LW_law_460 : decode code 460 = .ok (.aload_n 0, 1) := by decide +kernel
theorem d_LW_law_461 : decode code 461 = .ok (.iload_n 3, 1) := by decide +kernel
theorem d_LW_law_462 : decode code 462 = .ok (.iconst 1, 1) := by decide +kernel
theorem d_LW_law_463 : decode code 463 = .ok (.iadd, 1) := by decide +kernel
theorem d_LW_law_464 : decode code 464 = .ok (.iaload, 1) := by decide +kernel
theorem d_LW_law_465 : decode code 465 = .ok (.invokevirtual 57, 3) := by decide +kernel
theorem d_LW_law_468 : decode code 468 = .ok (.if_icmp .eq 246, 3) := by decide +kernel
theorem d_LW_law_471 : decode code 471 = .ok (.iconst 0, 1) := by decide +kernel
theorem d_LW_law_472 : decode code 472 = .ok (.ireturn, 1) := by decide +kernel
theorem d_LW_law_473 : decode code 473 = .ok (.aload_n 1, 1) := by decide +kernel
theorem d_LW_law_474 : decode code 474 = .ok (.aload_n 0, 1) := by decide +kernel
theorem d_LW_law_475 : decode code 475 = .ok (.iload_n 3, 1) := by decide +kernel
theorem d_LW_law_476 : decode code 476 = .ok (.iconst 1, 1) := by decide +kernel
theorem d_LW_law_477 : decode code 477 = .ok (.iadd, 1) := by decide +kernel
theorem d_LW_law_478 : decode code 478 = .ok (.iaload, 1) := by decide +kernel
theorem d_LW_law_479 : decode code 479 = .ok (.invokevirtual 58, 3) := by decide +kernel
theorem d_LW_law_482 : decode code 482 = .ok (.aload_n 2, 1) := by decide +kernel
theorem d_LW_law_483 : decode code 483 = .ok (.aload_n 0, 1) := by decide +kernel
theorem d_LW_law_484 : decode code 484 = .ok (.iload_n 3, 1) := by decide +kernel
theorem d_LW_law_485 : decode code 485 = .ok (.iconst 1, 1) := by decide +kernel
theorem d_LW_law_486 : decode code 486 = .ok (.iadd, 1) := by decide +kernel
theorem d_LW_law_487 : decode code 487 = .ok (.iaload, 1) := by decide +kernel
theorem d_LW_law_488 : decode code 488 = .ok (.invokevirtual 62, 3) := by decide +kernel
theorem d_LW_law_491 : decode code 491 = .ok (.if_icmp .eq 223, 3) := by decide +kernel
theorem d_LW_law_494 : decode code 494 = .ok (.iconst 0, 1) := by decide +kernel
theorem d_LW_law_495 : decode code 495 = .ok (.ireturn, 1) := by decide +kernel
theorem d_LW_law_496 : decode code 496 = .ok (.aload_n 1, 1) := by decide +kernel
theorem d_LW_law_497 : decode code 497 = .ok (.aload_n 0, 1) := by decide +kernel
theorem d_LW_law_498 : decode code 498 = .ok (.iload_n 3, 1) := by decide +kernel
theorem d_LW_law_499 : decode code 499 = .ok (.iconst 1, 1) := by decide +kernel
theorem d_LW_law_500 : decode code 500 = .ok (.iadd, 1) := by decide +kernel
theorem d_LW_law_501 : decode code 501 = .ok (.iaload, 1) := by decide +kernel
theorem d_LW_law_502 : decode code 502 = .ok (.invokevirtual 63, 3) := by decide +kernel
theorem d_LW_law_505 : decode code 505 = .ok (.aload_n 2, 1) := by decide +kernel
theorem d_LW_law_506 : decode code 506 = .ok (.aload_n 0, 1) := by decide +kernel
theorem d_LW_law_507 : decode code 507 = .ok (.iload_n 3, 1) := by decide +kernel
theorem d_LW_law_508 : decode code 508 = .ok (.iconst 1, 1) := by decide +kernel
theorem d_LW_law_509 : decode code 509 = .ok (.iadd, 1) := by decide +kernel
theorem d_LW_law_510 : decode code 510 = .ok (.iaload, 1) := by decide +kernel
theorem d_LW_law_511 : decode code 511 = .ok (.invokevirtual 66, 3) := by decide +kernel
theorem d_LW_law_514 : decode code 514 = .ok (.if_icmp .eq 200, 3) := by decide +kernel
theorem d_LW_law_517 : decode code 517 = .ok (.iconst 0, 1) := by decide +kernel
theorem d_LW_law_518 : decode code 518 = .ok (.ireturn, 1) := by decide +kernel
theorem d_LW_law_519 : decode code 519 = .ok (.aload_n 1, 1) := by decide +kernel
theorem d_LW_law_520 : decode code 520 = .ok (.aload_n 0, 1) := by decide +kernel
theorem d_LW_law_521 : decode code 521 = .ok (.iload_n 3, 1) := by decide +kernel
theorem d_LW_law_522 : decode code 522 = .ok (.iconst 1, 1) := by decide +kernel
theorem d_LW_law_523 : decode code 523 = .ok (.iadd, 1) := by decide +kernel
theorem d_LW_law_524 : decode code 524 = .ok (.iaload, 1) := by decide +kernel
theorem d_LW_law_525 : decode code 525 = .ok (.invokevirtual 67, 3) := by decide +kernel
theorem d_LW_law_528 : decode code 528 = .ok (.aload_n 2, 1) := by decide +kernel
theorem d_LW_law_529 : decode code 529 = .ok (.aload_n 0, 1) := by decide +kernel
theorem d_LW_law_530 : decode code 530 = .ok (.iload_n 3, 1) := by decide +kernel
theorem d_LW_law_531 : decode code 531 = .ok (.iconst 1, 1) := by decide +kernel
theorem d_LW_law_532 : decode code 532 = .ok (.iadd, 1) := by decide +kernel
theorem d_LW_law_533 : decode code 533 = .ok (.iaload, 1) := by decide +kernel
theorem d_LW_law_534 : decode code 534 = .ok (.invokevirtual 70, 3) := by decide +kernel
theorem d_LW_law_537 : decode code 537 = .ok (.if_icmp .eq 177, 3) := by decide +kernel
theorem d_LW_law_540 : decode code 540 = .ok (.iconst 0, 1) := by decide +kernel
theorem d_LW_law_541 : decode code 541 = .ok (.ireturn, 1) := by decide +kernel
theorem d_LW_law_542 : decode code 542 = .ok (.aload_n 1, 1) := by decide +kernel
theorem d_LW_law_543 : decode code 543 = .ok (.aload_n 0, 1) := by decide +kernel
theorem d_LW_law_544 : decode code 544 = .ok (.iload_n 3, 1) := by decide +kernel
theorem d_LW_law_545 : decode code 545 = .ok (.iconst 1, 1) := by decide +kernel
theorem d_LW_law_546 : decode code 546 = .ok (.iadd, 1) := by decide +kernel
theorem d_LW_law_547 : decode code 547 = .ok (.iaload, 1) := by decide +kernel
theorem d_LW_law_548 : decode code 548 = .ok (.invokevirtual 71, 3) := by decide +kernel
theorem d_LW_law_551 : decode code 551 = .ok (.aload_n 2, 1) := by decide +kernel
theorem d_LW_law_552 : decode code 552 = .ok (.aload_n 0, 1) := by decide +kernel
theorem d_LW_law_553 : decode code 553 = .ok (.iload_n 3, 1) := by decide +kernel
theorem d_LW_law_554 : decode code 554 = .ok (.iconst 1, 1) := by decide +kernel
theorem d_LW_law_555 : decode code 555 = .ok (.iadd, 1) := by decide +kernel
theorem d_LW_law_556 : decode code 556 = .ok (.iaload, 1) := by decide +kernel
theorem d_LW_law_557 : decode code 557 = .ok (.invokevirtual 74, 3) := by decide +kernel
theorem d_LW_law_560 : decode code 560 = .ok (.if_icmp .eq 154, 3) := by decide +kernel
theorem d_LW_law_563 : decode code 563 = .ok (.iconst 0, 1) := by decide +kernel
theorem d_LW_law_564 : decode code 564 = .ok (.ireturn, 1) := by decide +kernel
theorem d_LW_law_565 : decode code 565 = .ok (.aload_n 1, 1) := by decide +kernel
theorem d_LW_law_566 : decode code 566 = .ok (.aload_n 0, 1) := by decide +kernel
theorem d_LW_law_567 : decode code 567 = .ok (.iload_n 3, 1) := by decide +kernel
theorem d_LW_law_568 : decode code 568 = .ok (.iconst 1, 1) := by decide +kernel
theorem d_LW_law_569 : decode code 569 = .ok (.iadd, 1) := by decide +kernel
theorem d_LW_law_570 : decode code 570 = .ok (.iaload, 1) := by decide +kernel
theorem d_LW_law_571 : decode code 571 = .ok (.aload_n 0, 1) := by decide +kernel
theorem d_LW_law_572 : decode code 572 = .ok (.iload_n 3, 1) := by decide +kernel
theorem d_LW_law_573 : decode code 573 = .ok (.iconst 2, 1) := by decide +kernel
theorem d_LW_law_574 : decode code 574 = .ok (.iadd, 1) := by decide +kernel
theorem d_LW_law_575 : decode code 575 = .ok (.iaload, 1) := by decide +kernel
theorem d_LW_law_576 : decode code 576 = .ok (.invokevirtual 75, 3) := by decide +kernel
theorem d_LW_law_579 : decode code 579 = .ok (.aload_n 2, 1) := by decide +kernel
theorem d_LW_law_580 : decode code 580 = .ok (.aload_n 0, 1) := by decide +kernel
theorem d_LW_law_581 : decode code 581 = .ok (.iload_n 3, 1) := by decide +kernel
theorem d_LW_law_582 : decode code 582 = .ok (.iconst 1, 1) := by decide +kernel
theorem d_LW_law_583 : decode code 583 = .ok (.iadd, 1) := by decide +kernel
theorem d_LW_law_584 : decode code 584 = .ok (.iaload, 1) := by decide +kernel
theorem d_LW_law_585 : decode code 585 = .ok (.aload_n 0, 1) := by decide +kernel
theorem d_LW_law_586 : decode code 586 = .ok (.iload_n 3, 1) := by decide +kernel
theorem d_LW_law_587 : decode code 587 = .ok (.iconst 2, 1) := by decide +kernel
theorem d_LW_law_588 : decode code 588 = .ok (.iadd, 1) := by decide +kernel
theorem d_LW_law_589 : decode code 589 = .ok (.iaload, 1) := by decide +kernel
theorem d_LW_law_590 : decode code 590 = .ok (.invokevirtual 79, 3) := by decide +kernel
theorem d_LW_law_593 : decode code 593 = .ok (.if_icmp .eq 121, 3) := by decide +kernel
theorem d_LW_law_596 : decode code 596 = .ok (.iconst 0, 1) := by decide +kernel
theorem d_LW_law_597 : decode code 597 = .ok (.ireturn, 1) := by decide +kernel
theorem d_LW_law_598 : decode code 598 = .ok (.aload_n 1, 1) := by decide +kernel
theorem d_LW_law_599 : decode code 599 = .ok (.aload_n 0, 1) := by decide +kernel
theorem d_LW_law_600 : decode code 600 = .ok (.iload_n 3, 1) := by decide +kernel
theorem d_LW_law_601 : decode code 601 = .ok (.iconst 1, 1) := by decide +kernel
theorem d_LW_law_602 : decode code 602 = .ok (.iadd, 1) := by decide +kernel
theorem d_LW_law_603 : decode code 603 = .ok (.iaload, 1) := by decide +kernel
theorem d_LW_law_604 : decode code 604 = .ok (.aload_n 0, 1) := by decide +kernel
theorem d_LW_law_605 : decode code 605 = .ok (.iload_n 3, 1) := by decide +kernel
theorem d_LW_law_606 : decode code 606 = .ok (.iconst 2, 1) := by decide +kernel
theorem d_LW_law_607 : decode code 607 = .ok (.iadd, 1) := by decide +kernel
theorem d_LW_law_608 : decode code 608 = .ok (.iaload, 1) := by decide +kernel
theorem d_LW_law_609 : decode code 609 = .ok (.invokevirtual 80, 3) := by decide +kernel
theorem d_LW_law_612 : decode code 612 = .ok (.aload_n 2, 1) := by decide +kernel
theorem d_LW_law_613 : decode code 613 = .ok (.aload_n 0, 1) := by decide +kernel
theorem d_LW_law_614 : decode code 614 = .ok (.iload_n 3, 1) := by decide +kernel
theorem d_LW_law_615 : decode code 615 = .ok (.iconst 1, 1) := by decide +kernel
theorem d_LW_law_616 : decode code 616 = .ok (.iadd, 1) := by decide +kernel
theorem d_LW_law_617 : decode code 617 = .ok (.iaload, 1) := by decide +kernel
theorem d_LW_law_618 : decode code 618 = .ok (.aload_n 0, 1) := by decide +kernel
theorem d_LW_law_619 : decode code 619 = .ok (.iload_n 3, 1) := by decide +kernel
theorem d_LW_law_620 : decode code 620 = .ok (.iconst 2, 1) := by decide +kernel
theorem d_LW_law_621 : decode code 621 = .ok (.iadd, 1) := by decide +kernel
theorem d_LW_law_622 : decode code 622 = .ok (.iaload, 1) := by decide +kernel
theorem d_LW_law_623 : decode code 623 = .ok (.invokevirtual 83, 3) := by decide +kernel
theorem d_LW_law_626 : decode code 626 = .ok (.if_icmp .eq 88, 3) := by decide +kernel
theorem d_LW_law_629 : decode code 629 = .ok (.iconst 0, 1) := by decide +kernel
theorem d_LW_law_630 : decode code 630 = .ok (.ireturn, 1) := by decide +kernel
theorem d_LW_law_631 : decode code 631 = .ok (.aload_n 1, 1) := by decide +kernel
theorem d_LW_law_632 : decode code 632 = .ok (.aload_n 0, 1) := by decide +kernel
theorem d_LW_law_633 : decode code 633 = .ok (.iload_n 3, 1) := by decide +kernel
theorem d_LW_law_634 : decode code 634 = .ok (.iconst 1, 1) := by decide +kernel
theorem d_LW_law_635 : decode code 635 = .ok (.iadd, 1) := by decide +kernel
theorem d_LW_law_636 : decode code 636 = .ok (.iaload, 1) := by decide +kernel
theorem d_LW_law_637 : decode code 637 = .ok (.invokevirtual 84, 3) := by decide +kernel
theorem d_LW_law_640 : decode code 640 = .ok (.aload_n 2, 1) := by decide +kernel
theorem d_LW_law_641 : decode code 641 = .ok (.aload_n 0, 1) := by decide +kernel
theorem d_LW_law_642 : decode code 642 = .ok (.iload_n 3, 1) := by decide +kernel
theorem d_LW_law_643 : decode code 643 = .ok (.iconst 1, 1) := by decide +kernel
theorem d_LW_law_644 : decode code 644 = .ok (.iadd, 1) := by decide +kernel
theorem d_LW_law_645 : decode code 645 = .ok (.iaload, 1) := by decide +kernel
theorem d_LW_law_646 : decode code 646 = .ok (.invokevirtual 88, 3) := by decide +kernel
theorem d_LW_law_649 : decode code 649 = .ok (.lcmp, 1) := by decide +kernel
theorem d_LW_law_650 : decode code 650 = .ok (.ifCond .eq 64, 3) := by decide +kernel
theorem d_LW_law_653 : decode code 653 = .ok (.iconst 0, 1) := by decide +kernel
theorem d_LW_law_654 : decode code 654 = .ok (.ireturn, 1) := by decide +kernel
theorem d_LW_law_655 : decode code 655 = .ok (.aload_n 1, 1) := by decide +kernel
theorem d_LW_law_656 : decode code 656 = .ok (.aload_n 0, 1) := by decide +kernel
theorem d_LW_law_657 : decode code 657 = .ok (.iload_n 3, 1) := by decide +kernel
theorem d_LW_law_658 : decode code 658 = .ok (.iconst 1, 1) := by decide +kernel
theorem d_LW_law_659 : decode code 659 = .ok (.iadd, 1) := by decide +kernel
theorem d_LW_law_660 : decode code 660 = .ok (.iaload, 1) := by decide +kernel
theorem d_LW_law_661 : decode code 661 = .ok (.invokevirtual 89, 3) := by decide +kernel
theorem d_LW_law_664 : decode code 664 = .ok (.aload_n 2, 1) := by decide +kernel
theorem d_LW_law_665 : decode code 665 = .ok (.aload_n 0, 1) := by decide +kernel
theorem d_LW_law_666 : decode code 666 = .ok (.iload_n 3, 1) := by decide +kernel
theorem d_LW_law_667 : decode code 667 = .ok (.iconst 1, 1) := by decide +kernel
theorem d_LW_law_668 : decode code 668 = .ok (.iadd, 1) := by decide +kernel
theorem d_LW_law_669 : decode code 669 = .ok (.iaload, 1) := by decide +kernel
theorem d_LW_law_670 : decode code 670 = .ok (.invokevirtual 92, 3) := by decide +kernel
theorem d_LW_law_673 : decode code 673 = .ok (.if_icmp .eq 41, 3) := by decide +kernel
theorem d_LW_law_676 : decode code 676 = .ok (.iconst 0, 1) := by decide +kernel
theorem d_LW_law_677 : decode code 677 = .ok (.ireturn, 1) := by decide +kernel
theorem d_LW_law_678 : decode code 678 = .ok (.aload_n 1, 1) := by decide +kernel
theorem d_LW_law_679 : decode code 679 = .ok (.aload_n 0, 1) := by decide +kernel
theorem d_LW_law_680 : decode code 680 = .ok (.iload_n 3, 1) := by decide +kernel
theorem d_LW_law_681 : decode code 681 = .ok (.iconst 1, 1) := by decide +kernel
theorem d_LW_law_682 : decode code 682 = .ok (.iadd, 1) := by decide +kernel
theorem d_LW_law_683 : decode code 683 = .ok (.iaload, 1) := by decide +kernel
theorem d_LW_law_684 : decode code 684 = .ok (.invokevirtual 93, 3) := by decide +kernel
theorem d_LW_law_687 : decode code 687 = .ok (.aload_n 2, 1) := by decide +kernel
theorem d_LW_law_688 : decode code 688 = .ok (.aload_n 0, 1) := by decide +kernel
theorem d_LW_law_689 : decode code 689 = .ok (.iload_n 3, 1) := by decide +kernel
theorem d_LW_law_690 : decode code 690 = .ok (.iconst 1, 1) := by decide +kernel
theorem d_LW_law_691 : decode code 691 = .ok (.iadd, 1) := by decide +kernel
theorem d_LW_law_692 : decode code 692 = .ok (.iaload, 1) := by decide +kernel
theorem d_LW_law_693 : decode code 693 = .ok (.invokevirtual 96, 3) := by decide +kernel
theorem d_LW_law_696 : decode code 696 = .ok (.if_icmp .eq 18, 3) := by decide +kernel
theorem d_LW_law_699 : decode code 699 = .ok (.iconst 0, 1) := by decide +kernel
theorem d_LW_law_700 : decode code 700 = .ok (.ireturn, 1) := by decide +kernel
theorem d_LW_law_701 : decode code 701 = .ok (.aload_n 1, 1) := by decide +kernel
theorem d_LW_law_702 : decode code 702 = .ok (.invokevirtual 97, 3) := by decide +kernel
theorem d_LW_law_705 : decode code 705 = .ok (.aload_n 2, 1) := by decide +kernel
theorem d_LW_law_706 : decode code 706 = .ok (.invokevirtual 100, 3) := by decide +kernel
theorem d_LW_law_709 : decode code 709 = .ok (.if_icmp .eq 5, 3) := by decide +kernel
theorem d_LW_law_712 : decode code 712 = .ok (.iconst 0, 1) := by decide +kernel
theorem d_LW_law_713 : decode code 713 = .ok (.ireturn, 1) := by decide +kernel
theorem d_LW_law_714 : decode code 714 = .ok (.iinc 3 6, 3) := by decide +kernel
theorem d_LW_law_717 : decode code 717 = .ok (.goto (-699), 3) := by decide +kernel
theorem d_LW_law_720 : decode code 720 = .ok (.iconst 1, 1) := by decide +kernel
theorem d_LW_law_721 : decode code 721 = .ok (.ireturn, 1) := by decide +kernel
end
section
/-! calls, bundled -/
def VC (own : String) (idx : Nat) (Y : MM) (ci n : Nat) : Prop := MLn own idx Y ∧ Cond.instanceMethod (mY Y) ∈ lw_tbl ∧ Cond.selects (mO Y) (mY Y) (mY Y) ∈ lw_tbl ∧ (∃ T N, zCL[ci]? = some (mO Y, T, N)) ∧ nPar Y n
def SCs (own : String) (idx : Nat) (Y : MM) (n : Nat) : Prop := MLn own idx Y ∧ Cond.static (mY Y) ∈ lw_tbl ∧ nPar Y n
def ICi (own : String) (idx : Nat) (Y : MM) (n : Nat) : Prop := MLn own idx Y ∧ Cond.instanceMethod (mY Y) ∈ lw_tbl ∧ (mY Y).name = "<init>" ∧ mT Y = none ∧ nPar Y n
/-- one answer, one heap -/
def Ex (v : Option Value) (h1 : Hp) : Option Value → Hp → Prop := fun r h' => r = v ∧ h' = h1
theorem Fre.old {h : Hp} {q a : Nat} {kd x : Nat × Nat} (F : Fre h q) (ha : hS h a = some x) : hS (pN h q kd) a = some x := by
  have hne : a ≠ q := fun e => by rw [e, F.1] at ha; cases ha
  simp only [hS, pN, if_neg hne]
  exact ha
theorem Fre.new {h : Hp} {q : Nat} {kd : Nat × Nat} : hS (pN h q kd) q = some kd := by simp [hS, pN]
theorem Fre.ne {h : Hp} {q a : Nat} {x : Nat × Nat} (F : Fre h q) (ha : hS h a = some x) : a ≠ q := fun e => by rw [e, F.1] at ha; cases ha
section WR
variable {M : MM} {pc : Nat} {lv : List (Option Value)} {st : List Value} {h : Hp} {k n : Nat} {G : Gx} {P : Option Value → Hp → Prop} {d w mc ms : Nat} {p : Program} {l : Launch} {e : Env} {s : State} {m : MethodId} {args : Array Value} {below : List Frame} {meth : Method} {c : Code}
theorem q_V {idx a ci z nl d' w' mc' ms' : Nat} {Y : MM} {As st0 : List Value} {P' : Option Value → Hp → Prop} (hd : decode (mB M) pc = .ok (.invokevirtual idx, 3)) (v : VC (mO M) idx Y ci As.length) (C : Ct G l Y d' w' (.ref a :: As) h mc' ms' P') (hs : hS h a = some (ci + 10, z)) (hst : st0 = As.reverse ++ .ref a :: st) (h8 : catS st ≤ 8) (hnl : mL Y = nl) (hr : d' + 1 ≤ d ∧ 19 + nl + w' ≤ w ∧ k + mc' ≤ mc ∧ n + ms' ≤ ms) (K : ∀ r h', P' r h' → Go M (mkX G P d w mc ms p l e s m args below meth c) (pc + 3) lv (r.toList ++ st) h' (k + mc') (n + ms')) : Go M (mkX G P d w mc ms p l e s m args below meth c) pc lv st0 h k n := by
  obtain ⟨v1, v2, v3, ⟨T, N, v4⟩, v5⟩ := v
  exact g_callV hd v1 v2 v3 v4 v5 C hs hst h8 ⟨hr.1, by show 8 + (mL Y + 11) + w' ≤ w; rw [hnl]; omega, hr.2.2.1, hr.2.2.2⟩ K
theorem q_Vi {idx a ci z nl d' w' mc' ms' : Nat} {Y : MM} {As st0 : List Value} {x : Int32} {h1 : Hp} (hd : decode (mB M) pc = .ok (.invokevirtual idx, 3)) (v : VC (mO M) idx Y ci As.length) (C : Ct G l Y d' w' (.ref a :: As) h mc' ms' (Ex (some (.int x)) h1)) (hs : hS h a = some (ci + 10, z)) (hst : st0 = As.reverse ++ .ref a :: st) (h8 : catS st ≤ 8) (hnl : mL Y = nl) (hr : d' + 1 ≤ d ∧ 19 + nl + w' ≤ w ∧ k + mc' ≤ mc ∧ n + ms' ≤ ms) (K : Go M (mkX G P d w mc ms p l e s m args below meth c) (pc + 3) lv (.int x :: st) h1 (k + mc') (n + ms')) : Go M (mkX G P d w mc ms p l e s m args below meth c) pc lv st0 h k n := q_V hd v C hs hst h8 hnl hr (fun r h' q => by obtain ⟨rfl, rfl⟩ := q; exact K)
theorem q_Vl {idx a ci z nl d' w' mc' ms' : Nat} {Y : MM} {As st0 : List Value} {x : Int64} {h1 : Hp} (hd : decode (mB M) pc = .ok (.invokevirtual idx, 3)) (v : VC (mO M) idx Y ci As.length) (C : Ct G l Y d' w' (.ref a :: As) h mc' ms' (Ex (some (.long x)) h1)) (hs : hS h a = some (ci + 10, z)) (hst : st0 = As.reverse ++ .ref a :: st) (h8 : catS st ≤ 8) (hnl : mL Y = nl) (hr : d' + 1 ≤ d ∧ 19 + nl + w' ≤ w ∧ k + mc' ≤ mc ∧ n + ms' ≤ ms) (K : Go M (mkX G P d w mc ms p l e s m args below meth c) (pc + 3) lv (.long x :: st) h1 (k + mc') (n + ms')) : Go M (mkX G P d w mc ms p l e s m args below meth c) pc lv st0 h k n := q_V hd v C hs hst h8 hnl hr (fun r h' q => by obtain ⟨rfl, rfl⟩ := q; exact K)
theorem q_Vr {idx a ci z nl d' w' mc' ms' : Nat} {Y : MM} {As st0 : List Value} {x : Nat} {h1 : Hp} (hd : decode (mB M) pc = .ok (.invokevirtual idx, 3)) (v : VC (mO M) idx Y ci As.length) (C : Ct G l Y d' w' (.ref a :: As) h mc' ms' (Ex (some (.ref x)) h1)) (hs : hS h a = some (ci + 10, z)) (hst : st0 = As.reverse ++ .ref a :: st) (h8 : catS st ≤ 8) (hnl : mL Y = nl) (hr : d' + 1 ≤ d ∧ 19 + nl + w' ≤ w ∧ k + mc' ≤ mc ∧ n + ms' ≤ ms) (K : Go M (mkX G P d w mc ms p l e s m args below meth c) (pc + 3) lv (.ref x :: st) h1 (k + mc') (n + ms')) : Go M (mkX G P d w mc ms p l e s m args below meth c) pc lv st0 h k n := q_V hd v C hs hst h8 hnl hr (fun r h' q => by obtain ⟨rfl, rfl⟩ := q; exact K)
theorem q_Vq {idx a ci z nl d' w' mc' ms' : Nat} {Y : MM} {As st0 : List Value} {x : Option Nat} {h1 : Hp} (hd : decode (mB M) pc = .ok (.invokevirtual idx, 3)) (v : VC (mO M) idx Y ci As.length) (C : Ct G l Y d' w' (.ref a :: As) h mc' ms' (Ex (some (va_rf x)) h1)) (hs : hS h a = some (ci + 10, z)) (hst : st0 = As.reverse ++ .ref a :: st) (h8 : catS st ≤ 8) (hnl : mL Y = nl) (hr : d' + 1 ≤ d ∧ 19 + nl + w' ≤ w ∧ k + mc' ≤ mc ∧ n + ms' ≤ ms) (K : Go M (mkX G P d w mc ms p l e s m args below meth c) (pc + 3) lv (va_rf x :: st) h1 (k + mc') (n + ms')) : Go M (mkX G P d w mc ms p l e s m args below meth c) pc lv st0 h k n := q_V hd v C hs hst h8 hnl hr (fun r h' q => by obtain ⟨rfl, rfl⟩ := q; exact K)
theorem q_Vn {idx a ci z nl d' w' mc' ms' : Nat} {Y : MM} {As st0 : List Value}  {h1 : Hp} (hd : decode (mB M) pc = .ok (.invokevirtual idx, 3)) (v : VC (mO M) idx Y ci As.length) (C : Ct G l Y d' w' (.ref a :: As) h mc' ms' (Ex none h1)) (hs : hS h a = some (ci + 10, z)) (hst : st0 = As.reverse ++ .ref a :: st) (h8 : catS st ≤ 8) (hnl : mL Y = nl) (hr : d' + 1 ≤ d ∧ 19 + nl + w' ≤ w ∧ k + mc' ≤ mc ∧ n + ms' ≤ ms) (K : Go M (mkX G P d w mc ms p l e s m args below meth c) (pc + 3) lv st h1 (k + mc') (n + ms')) : Go M (mkX G P d w mc ms p l e s m args below meth c) pc lv st0 h k n := q_V hd v C hs hst h8 hnl hr (fun r h' q => by obtain ⟨rfl, rfl⟩ := q; exact K)
theorem q_S {idx nl d' w' mc' ms' : Nat} {Y : MM} {As st0 : List Value} {P' : Option Value → Hp → Prop} (hd : decode (mB M) pc = .ok (.invokestatic idx, 3)) (v : SCs (mO M) idx Y As.length) (C : Ct G l Y d' w' As h mc' ms' P') (hst : st0 = As.reverse ++ st) (h8 : catS st ≤ 8) (hnl : mL Y = nl) (hr : d' + 1 ≤ d ∧ 19 + nl + w' ≤ w ∧ k + mc' ≤ mc ∧ n + ms' ≤ ms) (K : ∀ r h', P' r h' → Go M (mkX G P d w mc ms p l e s m args below meth c) (pc + 3) lv (r.toList ++ st) h' (k + mc') (n + ms')) : Go M (mkX G P d w mc ms p l e s m args below meth c) pc lv st0 h k n := g_callS hd v.1 v.2.1 v.2.2 C hst h8 ⟨hr.1, by show 8 + (mL Y + 11) + w' ≤ w; rw [hnl]; omega, hr.2.2.1, hr.2.2.2⟩ K
theorem q_Si {idx nl d' w' mc' ms' : Nat} {Y : MM} {As st0 : List Value} {x : Int32} {h1 : Hp} (hd : decode (mB M) pc = .ok (.invokestatic idx, 3)) (v : SCs (mO M) idx Y As.length) (C : Ct G l Y d' w' As h mc' ms' (Ex (some (.int x)) h1)) (hst : st0 = As.reverse ++ st) (h8 : catS st ≤ 8) (hnl : mL Y = nl) (hr : d' + 1 ≤ d ∧ 19 + nl + w' ≤ w ∧ k + mc' ≤ mc ∧ n + ms' ≤ ms) (K : Go M (mkX G P d w mc ms p l e s m args below meth c) (pc + 3) lv (.int x :: st) h1 (k + mc') (n + ms')) : Go M (mkX G P d w mc ms p l e s m args below meth c) pc lv st0 h k n := q_S hd v C hst h8 hnl hr (fun r h' q => by obtain ⟨rfl, rfl⟩ := q; exact K)
theorem q_Sl {idx nl d' w' mc' ms' : Nat} {Y : MM} {As st0 : List Value} {x : Int64} {h1 : Hp} (hd : decode (mB M) pc = .ok (.invokestatic idx, 3)) (v : SCs (mO M) idx Y As.length) (C : Ct G l Y d' w' As h mc' ms' (Ex (some (.long x)) h1)) (hst : st0 = As.reverse ++ st) (h8 : catS st ≤ 8) (hnl : mL Y = nl) (hr : d' + 1 ≤ d ∧ 19 + nl + w' ≤ w ∧ k + mc' ≤ mc ∧ n + ms' ≤ ms) (K : Go M (mkX G P d w mc ms p l e s m args below meth c) (pc + 3) lv (.long x :: st) h1 (k + mc') (n + ms')) : Go M (mkX G P d w mc ms p l e s m args below meth c) pc lv st0 h k n := q_S hd v C hst h8 hnl hr (fun r h' q => by obtain ⟨rfl, rfl⟩ := q; exact K)
theorem q_Sr {idx nl d' w' mc' ms' : Nat} {Y : MM} {As st0 : List Value} {x : Nat} {h1 : Hp} (hd : decode (mB M) pc = .ok (.invokestatic idx, 3)) (v : SCs (mO M) idx Y As.length) (C : Ct G l Y d' w' As h mc' ms' (Ex (some (.ref x)) h1)) (hst : st0 = As.reverse ++ st) (h8 : catS st ≤ 8) (hnl : mL Y = nl) (hr : d' + 1 ≤ d ∧ 19 + nl + w' ≤ w ∧ k + mc' ≤ mc ∧ n + ms' ≤ ms) (K : Go M (mkX G P d w mc ms p l e s m args below meth c) (pc + 3) lv (.ref x :: st) h1 (k + mc') (n + ms')) : Go M (mkX G P d w mc ms p l e s m args below meth c) pc lv st0 h k n := q_S hd v C hst h8 hnl hr (fun r h' q => by obtain ⟨rfl, rfl⟩ := q; exact K)
theorem q_Sq {idx nl d' w' mc' ms' : Nat} {Y : MM} {As st0 : List Value} {x : Option Nat} {h1 : Hp} (hd : decode (mB M) pc = .ok (.invokestatic idx, 3)) (v : SCs (mO M) idx Y As.length) (C : Ct G l Y d' w' As h mc' ms' (Ex (some (va_rf x)) h1)) (hst : st0 = As.reverse ++ st) (h8 : catS st ≤ 8) (hnl : mL Y = nl) (hr : d' + 1 ≤ d ∧ 19 + nl + w' ≤ w ∧ k + mc' ≤ mc ∧ n + ms' ≤ ms) (K : Go M (mkX G P d w mc ms p l e s m args below meth c) (pc + 3) lv (va_rf x :: st) h1 (k + mc') (n + ms')) : Go M (mkX G P d w mc ms p l e s m args below meth c) pc lv st0 h k n := q_S hd v C hst h8 hnl hr (fun r h' q => by obtain ⟨rfl, rfl⟩ := q; exact K)
theorem q_Sn {idx nl d' w' mc' ms' : Nat} {Y : MM} {As st0 : List Value}  {h1 : Hp} (hd : decode (mB M) pc = .ok (.invokestatic idx, 3)) (v : SCs (mO M) idx Y As.length) (C : Ct G l Y d' w' As h mc' ms' (Ex none h1)) (hst : st0 = As.reverse ++ st) (h8 : catS st ≤ 8) (hnl : mL Y = nl) (hr : d' + 1 ≤ d ∧ 19 + nl + w' ≤ w ∧ k + mc' ≤ mc ∧ n + ms' ≤ ms) (K : Go M (mkX G P d w mc ms p l e s m args below meth c) (pc + 3) lv st h1 (k + mc') (n + ms')) : Go M (mkX G P d w mc ms p l e s m args below meth c) pc lv st0 h k n := q_S hd v C hst h8 hnl hr (fun r h' q => by obtain ⟨rfl, rfl⟩ := q; exact K)
theorem q_I {idx a nl d' w' mc' ms' : Nat} {Y : MM} {As st0 : List Value} {P' : Option Value → Hp → Prop} (hd : decode (mB M) pc = .ok (.invokespecial idx, 3)) (v : ICi (mO M) idx Y As.length) (C : Ct G l Y d' w' (.ref a :: As) h mc' ms' P') (hst : st0 = As.reverse ++ .ref a :: st) (h8 : catS st ≤ 8) (hnl : mL Y = nl) (hr : d' + 1 ≤ d ∧ 19 + nl + w' ≤ w ∧ k + mc' ≤ mc ∧ n + ms' ≤ ms) (K : ∀ r h', P' r h' → Go M (mkX G P d w mc ms p l e s m args below meth c) (pc + 3) lv (r.toList ++ st) h' (k + mc') (n + ms')) : Go M (mkX G P d w mc ms p l e s m args below meth c) pc lv st0 h k n := g_callI hd v.1 v.2.1 v.2.2.1 v.2.2.2.1 v.2.2.2.2 C hst h8 ⟨hr.1, by show 8 + (mL Y + 11) + w' ≤ w; rw [hnl]; omega, hr.2.2.1, hr.2.2.2⟩ K
theorem q_In {idx a nl d' w' mc' ms' : Nat} {Y : MM} {As st0 : List Value}  {h1 : Hp} (hd : decode (mB M) pc = .ok (.invokespecial idx, 3)) (v : ICi (mO M) idx Y As.length) (C : Ct G l Y d' w' (.ref a :: As) h mc' ms' (Ex none h1)) (hst : st0 = As.reverse ++ .ref a :: st) (h8 : catS st ≤ 8) (hnl : mL Y = nl) (hr : d' + 1 ≤ d ∧ 19 + nl + w' ≤ w ∧ k + mc' ≤ mc ∧ n + ms' ≤ ms) (K : Go M (mkX G P d w mc ms p l e s m args below meth c) (pc + 3) lv st h1 (k + mc') (n + ms')) : Go M (mkX G P d w mc ms p l e s m args below meth c) pc lv st0 h k n := q_I hd v C hst h8 hnl hr (fun r h' q => by obtain ⟨rfl, rfl⟩ := q; exact K)
end WR
/-! words of methods -/
theorem tb1 (w : Cond) (h : w ∈ tables_1_1) : w ∈ lw_tbl := List.mem_append_right _ (List.mem_append_left _ h)
theorem tb2 (w : Cond) (h : w ∈ tables_1_2) : w ∈ lw_tbl := List.mem_append_right _ (List.mem_append_right _ (List.mem_append_left _ h))
theorem tb3 (w : Cond) (h : w ∈ tables_1_3) : w ∈ lw_tbl := List.mem_append_right _ (List.mem_append_right _ (List.mem_append_right _ (List.mem_append_left _ h)))
theorem tb4 (w : Cond) (h : w ∈ tables_1_4) : w ∈ lw_tbl := List.mem_append_right _ (List.mem_append_right _ (List.mem_append_right _ (List.mem_append_right _ (List.mem_append_left _ h))))
theorem tb5 (w : Cond) (h : w ∈ tables_1_5) : w ∈ lw_tbl := List.mem_append_right _ (List.mem_append_right _ (List.mem_append_right _ (List.mem_append_right _ (List.mem_append_right _ h))))
theorem kc_SC_init : mCode M_SC_init ∈ lw_tbl := tb1 _ (List.mem_of_getElem? (i := 26) rfl)
theorem ki_SC_init : Cond.initialized (mO M_SC_init) ∈ lw_tbl := tb1 _ (List.mem_of_getElem? (i := 1) (by decide +kernel))
theorem kn_SC_init : Cond.instanceMethod (mY M_SC_init) ∈ lw_tbl := tb1 _ (List.mem_of_getElem? (i := 25) (by decide +kernel))
theorem kc_SC_register : mCode M_SC_register ∈ lw_tbl := tb1 _ (List.mem_of_getElem? (i := 158) rfl)
theorem ki_SC_register : Cond.initialized (mO M_SC_register) ∈ lw_tbl := tb1 _ (List.mem_of_getElem? (i := 1) (by decide +kernel))
theorem kn_SC_register : Cond.instanceMethod (mY M_SC_register) ∈ lw_tbl := tb1 _ (List.mem_of_getElem? (i := 156) (by decide +kernel))
theorem kv_SC_register : Cond.selects (mO M_SC_register) (mY M_SC_register) (mY M_SC_register) ∈ lw_tbl := tb1 _ (List.mem_of_getElem? (i := 157) (by decide +kernel))
theorem kc_SC_power : mCode M_SC_power ∈ lw_tbl := tb1 _ (List.mem_of_getElem? (i := 170) rfl)
theorem ki_SC_power : Cond.initialized (mO M_SC_power) ∈ lw_tbl := tb1 _ (List.mem_of_getElem? (i := 1) (by decide +kernel))
theorem kn_SC_power : Cond.instanceMethod (mY M_SC_power) ∈ lw_tbl := tb1 _ (List.mem_of_getElem? (i := 168) (by decide +kernel))
theorem kv_SC_power : Cond.selects (mO M_SC_power) (mY M_SC_power) (mY M_SC_power) ∈ lw_tbl := tb1 _ (List.mem_of_getElem? (i := 169) (by decide +kernel))
theorem kc_SC_type : mCode M_SC_type ∈ lw_tbl := tb1 _ (List.mem_of_getElem? (i := 174) rfl)
theorem ki_SC_type : Cond.initialized (mO M_SC_type) ∈ lw_tbl := tb1 _ (List.mem_of_getElem? (i := 1) (by decide +kernel))
theorem kn_SC_type : Cond.instanceMethod (mY M_SC_type) ∈ lw_tbl := tb1 _ (List.mem_of_getElem? (i := 172) (by decide +kernel))
theorem kv_SC_type : Cond.selects (mO M_SC_type) (mY M_SC_type) (mY M_SC_type) ∈ lw_tbl := tb1 _ (List.mem_of_getElem? (i := 173) (by decide +kernel))
theorem kc_SC_wipe : mCode M_SC_wipe ∈ lw_tbl := tb1 _ (List.mem_of_getElem? (i := 195) rfl)
theorem ki_SC_wipe : Cond.initialized (mO M_SC_wipe) ∈ lw_tbl := tb1 _ (List.mem_of_getElem? (i := 1) (by decide +kernel))
theorem kn_SC_wipe : Cond.instanceMethod (mY M_SC_wipe) ∈ lw_tbl := tb1 _ (List.mem_of_getElem? (i := 193) (by decide +kernel))
theorem kv_SC_wipe : Cond.selects (mO M_SC_wipe) (mY M_SC_wipe) (mY M_SC_wipe) ∈ lw_tbl := tb1 _ (List.mem_of_getElem? (i := 194) (by decide +kernel))
theorem kc_SC_send : mCode M_SC_send ∈ lw_tbl := tb1 _ (List.mem_of_getElem? (i := 199) rfl)
theorem ki_SC_send : Cond.initialized (mO M_SC_send) ∈ lw_tbl := tb1 _ (List.mem_of_getElem? (i := 1) (by decide +kernel))
theorem kn_SC_send : Cond.instanceMethod (mY M_SC_send) ∈ lw_tbl := tb1 _ (List.mem_of_getElem? (i := 197) (by decide +kernel))
theorem kv_SC_send : Cond.selects (mO M_SC_send) (mY M_SC_send) (mY M_SC_send) ∈ lw_tbl := tb1 _ (List.mem_of_getElem? (i := 198) (by decide +kernel))
theorem kc_SC_alter : mCode M_SC_alter ∈ lw_tbl := tb2 _ (List.mem_of_getElem? (i := 147) rfl)
theorem ki_SC_alter : Cond.initialized (mO M_SC_alter) ∈ lw_tbl := tb1 _ (List.mem_of_getElem? (i := 1) (by decide +kernel))
theorem kn_SC_alter : Cond.instanceMethod (mY M_SC_alter) ∈ lw_tbl := tb2 _ (List.mem_of_getElem? (i := 145) (by decide +kernel))
theorem kv_SC_alter : Cond.selects (mO M_SC_alter) (mY M_SC_alter) (mY M_SC_alter) ∈ lw_tbl := tb2 _ (List.mem_of_getElem? (i := 146) (by decide +kernel))
theorem kc_SC_receive : mCode M_SC_receive ∈ lw_tbl := tb2 _ (List.mem_of_getElem? (i := 179) rfl)
theorem ki_SC_receive : Cond.initialized (mO M_SC_receive) ∈ lw_tbl := tb1 _ (List.mem_of_getElem? (i := 1) (by decide +kernel))
theorem kn_SC_receive : Cond.instanceMethod (mY M_SC_receive) ∈ lw_tbl := tb2 _ (List.mem_of_getElem? (i := 177) (by decide +kernel))
theorem kv_SC_receive : Cond.selects (mO M_SC_receive) (mY M_SC_receive) (mY M_SC_receive) ∈ lw_tbl := tb2 _ (List.mem_of_getElem? (i := 178) (by decide +kernel))
theorem kc_SC_advance : mCode M_SC_advance ∈ lw_tbl := tb3 _ (List.mem_of_getElem? (i := 40) rfl)
theorem ki_SC_advance : Cond.initialized (mO M_SC_advance) ∈ lw_tbl := tb1 _ (List.mem_of_getElem? (i := 1) (by decide +kernel))
theorem kn_SC_advance : Cond.instanceMethod (mY M_SC_advance) ∈ lw_tbl := tb3 _ (List.mem_of_getElem? (i := 38) (by decide +kernel))
theorem kv_SC_advance : Cond.selects (mO M_SC_advance) (mY M_SC_advance) (mY M_SC_advance) ∈ lw_tbl := tb3 _ (List.mem_of_getElem? (i := 39) (by decide +kernel))
theorem kc_SC_take : mCode M_SC_take ∈ lw_tbl := tb3 _ (List.mem_of_getElem? (i := 107) rfl)
theorem ki_SC_take : Cond.initialized (mO M_SC_take) ∈ lw_tbl := tb1 _ (List.mem_of_getElem? (i := 1) (by decide +kernel))
theorem kn_SC_take : Cond.instanceMethod (mY M_SC_take) ∈ lw_tbl := tb3 _ (List.mem_of_getElem? (i := 105) (by decide +kernel))
theorem kv_SC_take : Cond.selects (mO M_SC_take) (mY M_SC_take) (mY M_SC_take) ∈ lw_tbl := tb3 _ (List.mem_of_getElem? (i := 106) (by decide +kernel))
theorem kc_SC_copy : mCode M_SC_copy ∈ lw_tbl := tb3 _ (List.mem_of_getElem? (i := 183) rfl)
theorem ki_SC_copy : Cond.initialized (mO M_SC_copy) ∈ lw_tbl := tb1 _ (List.mem_of_getElem? (i := 1) (by decide +kernel))
theorem kn_SC_copy : Cond.instanceMethod (mY M_SC_copy) ∈ lw_tbl := tb3 _ (List.mem_of_getElem? (i := 181) (by decide +kernel))
theorem kv_SC_copy : Cond.selects (mO M_SC_copy) (mY M_SC_copy) (mY M_SC_copy) ∈ lw_tbl := tb3 _ (List.mem_of_getElem? (i := 182) (by decide +kernel))
theorem kc_SC_swap : mCode M_SC_swap ∈ lw_tbl := tb3 _ (List.mem_of_getElem? (i := 187) rfl)
theorem ki_SC_swap : Cond.initialized (mO M_SC_swap) ∈ lw_tbl := tb1 _ (List.mem_of_getElem? (i := 1) (by decide +kernel))
theorem kn_SC_swap : Cond.instanceMethod (mY M_SC_swap) ∈ lw_tbl := tb3 _ (List.mem_of_getElem? (i := 185) (by decide +kernel))
theorem kv_SC_swap : Cond.selects (mO M_SC_swap) (mY M_SC_swap) (mY M_SC_swap) ∈ lw_tbl := tb3 _ (List.mem_of_getElem? (i := 186) (by decide +kernel))
theorem kc_SC_report : mCode M_SC_report ∈ lw_tbl := tb3 _ (List.mem_of_getElem? (i := 199) rfl)
theorem ki_SC_report : Cond.initialized (mO M_SC_report) ∈ lw_tbl := tb1 _ (List.mem_of_getElem? (i := 1) (by decide +kernel))
theorem kn_SC_report : Cond.instanceMethod (mY M_SC_report) ∈ lw_tbl := tb3 _ (List.mem_of_getElem? (i := 197) (by decide +kernel))
theorem kv_SC_report : Cond.selects (mO M_SC_report) (mY M_SC_report) (mY M_SC_report) ∈ lw_tbl := tb3 _ (List.mem_of_getElem? (i := 198) (by decide +kernel))
theorem kc_SC_waiting : mCode M_SC_waiting ∈ lw_tbl := tb3 _ (List.mem_of_getElem? (i := 205) rfl)
theorem ki_SC_waiting : Cond.initialized (mO M_SC_waiting) ∈ lw_tbl := tb1 _ (List.mem_of_getElem? (i := 1) (by decide +kernel))
theorem kn_SC_waiting : Cond.instanceMethod (mY M_SC_waiting) ∈ lw_tbl := tb3 _ (List.mem_of_getElem? (i := 203) (by decide +kernel))
theorem kv_SC_waiting : Cond.selects (mO M_SC_waiting) (mY M_SC_waiting) (mY M_SC_waiting) ∈ lw_tbl := tb3 _ (List.mem_of_getElem? (i := 204) (by decide +kernel))
theorem kc_SC_byteAt : mCode M_SC_byteAt ∈ lw_tbl := tb3 _ (List.mem_of_getElem? (i := 217) rfl)
theorem ki_SC_byteAt : Cond.initialized (mO M_SC_byteAt) ∈ lw_tbl := tb1 _ (List.mem_of_getElem? (i := 1) (by decide +kernel))
theorem kn_SC_byteAt : Cond.instanceMethod (mY M_SC_byteAt) ∈ lw_tbl := tb3 _ (List.mem_of_getElem? (i := 215) (by decide +kernel))
theorem kv_SC_byteAt : Cond.selects (mO M_SC_byteAt) (mY M_SC_byteAt) (mY M_SC_byteAt) ∈ lw_tbl := tb3 _ (List.mem_of_getElem? (i := 216) (by decide +kernel))
theorem kc_SC_text : mCode M_SC_text ∈ lw_tbl := tb3 _ (List.mem_of_getElem? (i := 221) rfl)
theorem ki_SC_text : Cond.initialized (mO M_SC_text) ∈ lw_tbl := tb1 _ (List.mem_of_getElem? (i := 1) (by decide +kernel))
theorem kn_SC_text : Cond.instanceMethod (mY M_SC_text) ∈ lw_tbl := tb3 _ (List.mem_of_getElem? (i := 219) (by decide +kernel))
theorem kv_SC_text : Cond.selects (mO M_SC_text) (mY M_SC_text) (mY M_SC_text) ∈ lw_tbl := tb3 _ (List.mem_of_getElem? (i := 220) (by decide +kernel))
theorem kc_SC_sender : mCode M_SC_sender ∈ lw_tbl := tb3 _ (List.mem_of_getElem? (i := 225) rfl)
theorem ki_SC_sender : Cond.initialized (mO M_SC_sender) ∈ lw_tbl := tb1 _ (List.mem_of_getElem? (i := 1) (by decide +kernel))
theorem kn_SC_sender : Cond.instanceMethod (mY M_SC_sender) ∈ lw_tbl := tb3 _ (List.mem_of_getElem? (i := 223) (by decide +kernel))
theorem kv_SC_sender : Cond.selects (mO M_SC_sender) (mY M_SC_sender) (mY M_SC_sender) ∈ lw_tbl := tb3 _ (List.mem_of_getElem? (i := 224) (by decide +kernel))
theorem kc_SC_state : mCode M_SC_state ∈ lw_tbl := tb3 _ (List.mem_of_getElem? (i := 229) rfl)
theorem ki_SC_state : Cond.initialized (mO M_SC_state) ∈ lw_tbl := tb1 _ (List.mem_of_getElem? (i := 1) (by decide +kernel))
theorem kn_SC_state : Cond.instanceMethod (mY M_SC_state) ∈ lw_tbl := tb3 _ (List.mem_of_getElem? (i := 227) (by decide +kernel))
theorem kv_SC_state : Cond.selects (mO M_SC_state) (mY M_SC_state) (mY M_SC_state) ∈ lw_tbl := tb3 _ (List.mem_of_getElem? (i := 228) (by decide +kernel))
theorem kc_SC_offers : mCode M_SC_offers ∈ lw_tbl := tb3 _ (List.mem_of_getElem? (i := 233) rfl)
theorem ki_SC_offers : Cond.initialized (mO M_SC_offers) ∈ lw_tbl := tb1 _ (List.mem_of_getElem? (i := 1) (by decide +kernel))
theorem kn_SC_offers : Cond.instanceMethod (mY M_SC_offers) ∈ lw_tbl := tb3 _ (List.mem_of_getElem? (i := 231) (by decide +kernel))
theorem kv_SC_offers : Cond.selects (mO M_SC_offers) (mY M_SC_offers) (mY M_SC_offers) ∈ lw_tbl := tb3 _ (List.mem_of_getElem? (i := 232) (by decide +kernel))
theorem kc_SC_time : mCode M_SC_time ∈ lw_tbl := tb3 _ (List.mem_of_getElem? (i := 237) rfl)
theorem ki_SC_time : Cond.initialized (mO M_SC_time) ∈ lw_tbl := tb1 _ (List.mem_of_getElem? (i := 1) (by decide +kernel))
theorem kn_SC_time : Cond.instanceMethod (mY M_SC_time) ∈ lw_tbl := tb3 _ (List.mem_of_getElem? (i := 235) (by decide +kernel))
theorem kv_SC_time : Cond.selects (mO M_SC_time) (mY M_SC_time) (mY M_SC_time) ∈ lw_tbl := tb3 _ (List.mem_of_getElem? (i := 236) (by decide +kernel))
theorem kc_SC_isNumber : mCode M_SC_isNumber ∈ lw_tbl := tb1 _ (List.mem_of_getElem? (i := 165) rfl)
theorem ki_SC_isNumber : Cond.initialized (mO M_SC_isNumber) ∈ lw_tbl := tb1 _ (List.mem_of_getElem? (i := 1) (by decide +kernel))
theorem ks_SC_isNumber : Cond.static (mY M_SC_isNumber) ∈ lw_tbl := tb1 _ (List.mem_of_getElem? (i := 164) (by decide +kernel))
theorem kc_SC_deviceOf : mCode M_SC_deviceOf ∈ lw_tbl := tb1 _ (List.mem_of_getElem? (i := 162) rfl)
theorem ki_SC_deviceOf : Cond.initialized (mO M_SC_deviceOf) ∈ lw_tbl := tb1 _ (List.mem_of_getElem? (i := 1) (by decide +kernel))
theorem kn_SC_deviceOf : Cond.instanceMethod (mY M_SC_deviceOf) ∈ lw_tbl := tb1 _ (List.mem_of_getElem? (i := 161) (by decide +kernel))
theorem kv_SC_deviceOf : Cond.selects (mO M_SC_deviceOf) (mY M_SC_deviceOf) (mY M_SC_deviceOf) ∈ lw_tbl := List.mem_of_getElem? (i := 0) (by decide +kernel)
theorem kc_SC_lineOf : mCode M_SC_lineOf ∈ lw_tbl := tb3 _ (List.mem_of_getElem? (i := 209) rfl)
theorem ki_SC_lineOf : Cond.initialized (mO M_SC_lineOf) ∈ lw_tbl := tb1 _ (List.mem_of_getElem? (i := 1) (by decide +kernel))
theorem kn_SC_lineOf : Cond.instanceMethod (mY M_SC_lineOf) ∈ lw_tbl := tb3 _ (List.mem_of_getElem? (i := 208) (by decide +kernel))
theorem kv_SC_lineOf : Cond.selects (mO M_SC_lineOf) (mY M_SC_lineOf) (mY M_SC_lineOf) ∈ lw_tbl := List.mem_of_getElem? (i := 13) (by decide +kernel)
theorem kc_SC_sendUp : mCode M_SC_sendUp ∈ lw_tbl := tb1 _ (List.mem_of_getElem? (i := 226) rfl)
theorem ki_SC_sendUp : Cond.initialized (mO M_SC_sendUp) ∈ lw_tbl := tb1 _ (List.mem_of_getElem? (i := 1) (by decide +kernel))
theorem kn_SC_sendUp : Cond.instanceMethod (mY M_SC_sendUp) ∈ lw_tbl := tb1 _ (List.mem_of_getElem? (i := 225) (by decide +kernel))
theorem kv_SC_sendUp : Cond.selects (mO M_SC_sendUp) (mY M_SC_sendUp) (mY M_SC_sendUp) ∈ lw_tbl := List.mem_of_getElem? (i := 1) (by decide +kernel)
theorem kc_SC_earliestPlace : mCode M_SC_earliestPlace ∈ lw_tbl := tb3 _ (List.mem_of_getElem? (i := 46) rfl)
theorem ki_SC_earliestPlace : Cond.initialized (mO M_SC_earliestPlace) ∈ lw_tbl := tb1 _ (List.mem_of_getElem? (i := 1) (by decide +kernel))
theorem kn_SC_earliestPlace : Cond.instanceMethod (mY M_SC_earliestPlace) ∈ lw_tbl := tb3 _ (List.mem_of_getElem? (i := 45) (by decide +kernel))
theorem kv_SC_earliestPlace : Cond.selects (mO M_SC_earliestPlace) (mY M_SC_earliestPlace) (mY M_SC_earliestPlace) ∈ lw_tbl := List.mem_of_getElem? (i := 8) (by decide +kernel)
theorem kc_SC_dealWith : mCode M_SC_dealWith ∈ lw_tbl := tb3 _ (List.mem_of_getElem? (i := 56) rfl)
theorem ki_SC_dealWith : Cond.initialized (mO M_SC_dealWith) ∈ lw_tbl := tb1 _ (List.mem_of_getElem? (i := 1) (by decide +kernel))
theorem kn_SC_dealWith : Cond.instanceMethod (mY M_SC_dealWith) ∈ lw_tbl := tb3 _ (List.mem_of_getElem? (i := 55) (by decide +kernel))
theorem kv_SC_dealWith : Cond.selects (mO M_SC_dealWith) (mY M_SC_dealWith) (mY M_SC_dealWith) ∈ lw_tbl := List.mem_of_getElem? (i := 9) (by decide +kernel)
theorem kc_SC_holderOf : mCode M_SC_holderOf ∈ lw_tbl := tb3 _ (List.mem_of_getElem? (i := 62) rfl)
theorem ki_SC_holderOf : Cond.initialized (mO M_SC_holderOf) ∈ lw_tbl := tb1 _ (List.mem_of_getElem? (i := 1) (by decide +kernel))
theorem kn_SC_holderOf : Cond.instanceMethod (mY M_SC_holderOf) ∈ lw_tbl := tb3 _ (List.mem_of_getElem? (i := 61) (by decide +kernel))
theorem kv_SC_holderOf : Cond.selects (mO M_SC_holderOf) (mY M_SC_holderOf) (mY M_SC_holderOf) ∈ lw_tbl := List.mem_of_getElem? (i := 10) (by decide +kernel)
theorem kc_MO_init : mCode M_MO_init ∈ lw_tbl := tb4 _ (List.mem_of_getElem? (i := 2) rfl)
theorem ki_MO_init : Cond.initialized (mO M_MO_init) ∈ lw_tbl := tb1 _ (List.mem_of_getElem? (i := 8) (by decide +kernel))
theorem kn_MO_init : Cond.instanceMethod (mY M_MO_init) ∈ lw_tbl := tb4 _ (List.mem_of_getElem? (i := 1) (by decide +kernel))
theorem kc_MO_plain : mCode M_MO_plain ∈ lw_tbl := tb4 _ (List.mem_of_getElem? (i := 163) rfl)
theorem ki_MO_plain : Cond.initialized (mO M_MO_plain) ∈ lw_tbl := tb1 _ (List.mem_of_getElem? (i := 8) (by decide +kernel))
theorem ks_MO_plain : Cond.static (mY M_MO_plain) ∈ lw_tbl := tb4 _ (List.mem_of_getElem? (i := 162) (by decide +kernel))
theorem kc_MO_upper : mCode M_MO_upper ∈ lw_tbl := tb4 _ (List.mem_of_getElem? (i := 166) rfl)
theorem ki_MO_upper : Cond.initialized (mO M_MO_upper) ∈ lw_tbl := tb1 _ (List.mem_of_getElem? (i := 8) (by decide +kernel))
theorem ks_MO_upper : Cond.static (mY M_MO_upper) ∈ lw_tbl := tb4 _ (List.mem_of_getElem? (i := 165) (by decide +kernel))
theorem kc_MO_escaped : mCode M_MO_escaped ∈ lw_tbl := tb4 _ (List.mem_of_getElem? (i := 169) rfl)
theorem ki_MO_escaped : Cond.initialized (mO M_MO_escaped) ∈ lw_tbl := tb1 _ (List.mem_of_getElem? (i := 8) (by decide +kernel))
theorem ks_MO_escaped : Cond.static (mY M_MO_escaped) ∈ lw_tbl := tb4 _ (List.mem_of_getElem? (i := 168) (by decide +kernel))
theorem kc_MO_encode : mCode M_MO_encode ∈ lw_tbl := tb4 _ (List.mem_of_getElem? (i := 160) rfl)
theorem ki_MO_encode : Cond.initialized (mO M_MO_encode) ∈ lw_tbl := tb1 _ (List.mem_of_getElem? (i := 8) (by decide +kernel))
theorem kn_MO_encode : Cond.instanceMethod (mY M_MO_encode) ∈ lw_tbl := tb4 _ (List.mem_of_getElem? (i := 159) (by decide +kernel))
theorem kv_MO_encode : Cond.selects (mO M_MO_encode) (mY M_MO_encode) (mY M_MO_encode) ∈ lw_tbl := List.mem_of_getElem? (i := 14) (by decide +kernel)
theorem kc_MO_put : mCode M_MO_put ∈ lw_tbl := tb4 _ (List.mem_of_getElem? (i := 185) rfl)
theorem ki_MO_put : Cond.initialized (mO M_MO_put) ∈ lw_tbl := tb1 _ (List.mem_of_getElem? (i := 8) (by decide +kernel))
theorem kn_MO_put : Cond.instanceMethod (mY M_MO_put) ∈ lw_tbl := tb4 _ (List.mem_of_getElem? (i := 184) (by decide +kernel))
theorem kv_MO_put : Cond.selects (mO M_MO_put) (mY M_MO_put) (mY M_MO_put) ∈ lw_tbl := List.mem_of_getElem? (i := 18) (by decide +kernel)
theorem kc_MO_power : mCode M_MO_power ∈ lw_tbl := tb4 _ (List.mem_of_getElem? (i := 192) rfl)
theorem ki_MO_power : Cond.initialized (mO M_MO_power) ∈ lw_tbl := tb1 _ (List.mem_of_getElem? (i := 8) (by decide +kernel))
theorem ks_MO_power : Cond.static (mY M_MO_power) ∈ lw_tbl := tb4 _ (List.mem_of_getElem? (i := 191) (by decide +kernel))
theorem kc_MO_putDigits : mCode M_MO_putDigits ∈ lw_tbl := tb4 _ (List.mem_of_getElem? (i := 197) rfl)
theorem ki_MO_putDigits : Cond.initialized (mO M_MO_putDigits) ∈ lw_tbl := tb1 _ (List.mem_of_getElem? (i := 8) (by decide +kernel))
theorem kn_MO_putDigits : Cond.instanceMethod (mY M_MO_putDigits) ∈ lw_tbl := tb4 _ (List.mem_of_getElem? (i := 196) (by decide +kernel))
theorem kv_MO_putDigits : Cond.selects (mO M_MO_putDigits) (mY M_MO_putDigits) (mY M_MO_putDigits) ∈ lw_tbl := List.mem_of_getElem? (i := 20) (by decide +kernel)
theorem kc_MO_putAddress : mCode M_MO_putAddress ∈ lw_tbl := tb4 _ (List.mem_of_getElem? (i := 189) rfl)
theorem ki_MO_putAddress : Cond.initialized (mO M_MO_putAddress) ∈ lw_tbl := tb1 _ (List.mem_of_getElem? (i := 8) (by decide +kernel))
theorem kn_MO_putAddress : Cond.instanceMethod (mY M_MO_putAddress) ∈ lw_tbl := tb4 _ (List.mem_of_getElem? (i := 188) (by decide +kernel))
theorem kv_MO_putAddress : Cond.selects (mO M_MO_putAddress) (mY M_MO_putAddress) (mY M_MO_putAddress) ∈ lw_tbl := List.mem_of_getElem? (i := 19) (by decide +kernel)
theorem kc_MO_bytesFor : mCode M_MO_bytesFor ∈ lw_tbl := tb4 _ (List.mem_of_getElem? (i := 204) rfl)
theorem ki_MO_bytesFor : Cond.initialized (mO M_MO_bytesFor) ∈ lw_tbl := tb1 _ (List.mem_of_getElem? (i := 8) (by decide +kernel))
theorem ks_MO_bytesFor : Cond.static (mY M_MO_bytesFor) ∈ lw_tbl := tb4 _ (List.mem_of_getElem? (i := 203) (by decide +kernel))
theorem kc_MO_putData : mCode M_MO_putData ∈ lw_tbl := tb4 _ (List.mem_of_getElem? (i := 201) rfl)
theorem ki_MO_putData : Cond.initialized (mO M_MO_putData) ∈ lw_tbl := tb1 _ (List.mem_of_getElem? (i := 8) (by decide +kernel))
theorem kn_MO_putData : Cond.instanceMethod (mY M_MO_putData) ∈ lw_tbl := tb4 _ (List.mem_of_getElem? (i := 200) (by decide +kernel))
theorem kv_MO_putData : Cond.selects (mO M_MO_putData) (mY M_MO_putData) (mY M_MO_putData) ∈ lw_tbl := List.mem_of_getElem? (i := 21) (by decide +kernel)
theorem kc_MO_putSubmit : mCode M_MO_putSubmit ∈ lw_tbl := tb4 _ (List.mem_of_getElem? (i := 181) rfl)
theorem ki_MO_putSubmit : Cond.initialized (mO M_MO_putSubmit) ∈ lw_tbl := tb1 _ (List.mem_of_getElem? (i := 8) (by decide +kernel))
theorem kn_MO_putSubmit : Cond.instanceMethod (mY M_MO_putSubmit) ∈ lw_tbl := tb4 _ (List.mem_of_getElem? (i := 180) (by decide +kernel))
theorem kv_MO_putSubmit : Cond.selects (mO M_MO_putSubmit) (mY M_MO_putSubmit) (mY M_MO_putSubmit) ∈ lw_tbl := List.mem_of_getElem? (i := 17) (by decide +kernel)
theorem kc_MO_baseOf : mCode M_MO_baseOf ∈ lw_tbl := tb4 _ (List.mem_of_getElem? (i := 211) rfl)
theorem ki_MO_baseOf : Cond.initialized (mO M_MO_baseOf) ∈ lw_tbl := tb1 _ (List.mem_of_getElem? (i := 8) (by decide +kernel))
theorem ks_MO_baseOf : Cond.static (mY M_MO_baseOf) ∈ lw_tbl := tb4 _ (List.mem_of_getElem? (i := 210) (by decide +kernel))
theorem kc_MO_append : mCode M_MO_append ∈ lw_tbl := tb4 _ (List.mem_of_getElem? (i := 208) rfl)
theorem ki_MO_append : Cond.initialized (mO M_MO_append) ∈ lw_tbl := tb1 _ (List.mem_of_getElem? (i := 8) (by decide +kernel))
theorem kn_MO_append : Cond.instanceMethod (mY M_MO_append) ∈ lw_tbl := tb4 _ (List.mem_of_getElem? (i := 207) (by decide +kernel))
theorem kv_MO_append : Cond.selects (mO M_MO_append) (mY M_MO_append) (mY M_MO_append) ∈ lw_tbl := List.mem_of_getElem? (i := 22) (by decide +kernel)
theorem kc_MO_load : mCode M_MO_load ∈ lw_tbl := tb4 _ (List.mem_of_getElem? (i := 223) rfl)
theorem ki_MO_load : Cond.initialized (mO M_MO_load) ∈ lw_tbl := tb1 _ (List.mem_of_getElem? (i := 8) (by decide +kernel))
theorem kn_MO_load : Cond.instanceMethod (mY M_MO_load) ∈ lw_tbl := tb4 _ (List.mem_of_getElem? (i := 222) (by decide +kernel))
theorem kv_MO_load : Cond.selects (mO M_MO_load) (mY M_MO_load) (mY M_MO_load) ∈ lw_tbl := List.mem_of_getElem? (i := 23) (by decide +kernel)
theorem kc_MO_move : mCode M_MO_move ∈ lw_tbl := tb5 _ (List.mem_of_getElem? (i := 11) rfl)
theorem ki_MO_move : Cond.initialized (mO M_MO_move) ∈ lw_tbl := tb1 _ (List.mem_of_getElem? (i := 8) (by decide +kernel))
theorem kn_MO_move : Cond.instanceMethod (mY M_MO_move) ∈ lw_tbl := tb5 _ (List.mem_of_getElem? (i := 10) (by decide +kernel))
theorem kv_MO_move : Cond.selects (mO M_MO_move) (mY M_MO_move) (mY M_MO_move) ∈ lw_tbl := List.mem_of_getElem? (i := 30) (by decide +kernel)
theorem kc_MO_removeFirst : mCode M_MO_removeFirst ∈ lw_tbl := tb5 _ (List.mem_of_getElem? (i := 7) rfl)
theorem ki_MO_removeFirst : Cond.initialized (mO M_MO_removeFirst) ∈ lw_tbl := tb1 _ (List.mem_of_getElem? (i := 8) (by decide +kernel))
theorem kn_MO_removeFirst : Cond.instanceMethod (mY M_MO_removeFirst) ∈ lw_tbl := tb5 _ (List.mem_of_getElem? (i := 6) (by decide +kernel))
theorem kv_MO_removeFirst : Cond.selects (mO M_MO_removeFirst) (mY M_MO_removeFirst) (mY M_MO_removeFirst) ∈ lw_tbl := List.mem_of_getElem? (i := 29) (by decide +kernel)
theorem kc_MO_bit : mCode M_MO_bit ∈ lw_tbl := tb4 _ (List.mem_of_getElem? (i := 239) rfl)
theorem ki_MO_bit : Cond.initialized (mO M_MO_bit) ∈ lw_tbl := tb1 _ (List.mem_of_getElem? (i := 8) (by decide +kernel))
theorem kn_MO_bit : Cond.instanceMethod (mY M_MO_bit) ∈ lw_tbl := tb4 _ (List.mem_of_getElem? (i := 238) (by decide +kernel))
theorem kv_MO_bit : Cond.selects (mO M_MO_bit) (mY M_MO_bit) (mY M_MO_bit) ∈ lw_tbl := List.mem_of_getElem? (i := 27) (by decide +kernel)
theorem kc_MO_readSeptets : mCode M_MO_readSeptets ∈ lw_tbl := tb4 _ (List.mem_of_getElem? (i := 235) rfl)
theorem ki_MO_readSeptets : Cond.initialized (mO M_MO_readSeptets) ∈ lw_tbl := tb1 _ (List.mem_of_getElem? (i := 8) (by decide +kernel))
theorem kn_MO_readSeptets : Cond.instanceMethod (mY M_MO_readSeptets) ∈ lw_tbl := tb4 _ (List.mem_of_getElem? (i := 234) (by decide +kernel))
theorem kv_MO_readSeptets : Cond.selects (mO M_MO_readSeptets) (mY M_MO_readSeptets) (mY M_MO_readSeptets) ∈ lw_tbl := List.mem_of_getElem? (i := 26) (by decide +kernel)
theorem kc_MO_areText : mCode M_MO_areText ∈ lw_tbl := tb5 _ (List.mem_of_getElem? (i := 3) rfl)
theorem ki_MO_areText : Cond.initialized (mO M_MO_areText) ∈ lw_tbl := tb1 _ (List.mem_of_getElem? (i := 8) (by decide +kernel))
theorem kn_MO_areText : Cond.instanceMethod (mY M_MO_areText) ∈ lw_tbl := tb5 _ (List.mem_of_getElem? (i := 2) (by decide +kernel))
theorem kv_MO_areText : Cond.selects (mO M_MO_areText) (mY M_MO_areText) (mY M_MO_areText) ∈ lw_tbl := List.mem_of_getElem? (i := 28) (by decide +kernel)
theorem kc_MO_readNumber : mCode M_MO_readNumber ∈ lw_tbl := tb4 _ (List.mem_of_getElem? (i := 231) rfl)
theorem ki_MO_readNumber : Cond.initialized (mO M_MO_readNumber) ∈ lw_tbl := tb1 _ (List.mem_of_getElem? (i := 8) (by decide +kernel))
theorem kn_MO_readNumber : Cond.instanceMethod (mY M_MO_readNumber) ∈ lw_tbl := tb4 _ (List.mem_of_getElem? (i := 230) (by decide +kernel))
theorem kv_MO_readNumber : Cond.selects (mO M_MO_readNumber) (mY M_MO_readNumber) (mY M_MO_readNumber) ∈ lw_tbl := List.mem_of_getElem? (i := 25) (by decide +kernel)
theorem kc_MO_legal : mCode M_MO_legal ∈ lw_tbl := tb4 _ (List.mem_of_getElem? (i := 227) rfl)
theorem ki_MO_legal : Cond.initialized (mO M_MO_legal) ∈ lw_tbl := tb1 _ (List.mem_of_getElem? (i := 8) (by decide +kernel))
theorem kn_MO_legal : Cond.instanceMethod (mY M_MO_legal) ∈ lw_tbl := tb4 _ (List.mem_of_getElem? (i := 226) (by decide +kernel))
theorem kv_MO_legal : Cond.selects (mO M_MO_legal) (mY M_MO_legal) (mY M_MO_legal) ∈ lw_tbl := List.mem_of_getElem? (i := 24) (by decide +kernel)
theorem kc_MO_isDevice : mCode M_MO_isDevice ∈ lw_tbl := tb4 _ (List.mem_of_getElem? (i := 136) rfl)
theorem ki_MO_isDevice : Cond.initialized (mO M_MO_isDevice) ∈ lw_tbl := tb1 _ (List.mem_of_getElem? (i := 8) (by decide +kernel))
theorem ks_MO_isDevice : Cond.static (mY M_MO_isDevice) ∈ lw_tbl := tb4 _ (List.mem_of_getElem? (i := 135) (by decide +kernel))
theorem kc_MO_isNumber : mCode M_MO_isNumber ∈ lw_tbl := tb4 _ (List.mem_of_getElem? (i := 139) rfl)
theorem ki_MO_isNumber : Cond.initialized (mO M_MO_isNumber) ∈ lw_tbl := tb1 _ (List.mem_of_getElem? (i := 8) (by decide +kernel))
theorem ks_MO_isNumber : Cond.static (mY M_MO_isNumber) ∈ lw_tbl := tb4 _ (List.mem_of_getElem? (i := 138) (by decide +kernel))
theorem kc_MO_register : mCode M_MO_register ∈ lw_tbl := tb4 _ (List.mem_of_getElem? (i := 133) rfl)
theorem ki_MO_register : Cond.initialized (mO M_MO_register) ∈ lw_tbl := tb1 _ (List.mem_of_getElem? (i := 8) (by decide +kernel))
theorem kn_MO_register : Cond.instanceMethod (mY M_MO_register) ∈ lw_tbl := tb4 _ (List.mem_of_getElem? (i := 131) (by decide +kernel))
theorem kv_MO_register : Cond.selects (mO M_MO_register) (mY M_MO_register) (mY M_MO_register) ∈ lw_tbl := tb4 _ (List.mem_of_getElem? (i := 132) (by decide +kernel))
theorem kc_MO_power1 : mCode M_MO_power1 ∈ lw_tbl := tb4 _ (List.mem_of_getElem? (i := 144) rfl)
theorem ki_MO_power1 : Cond.initialized (mO M_MO_power1) ∈ lw_tbl := tb1 _ (List.mem_of_getElem? (i := 8) (by decide +kernel))
theorem kn_MO_power1 : Cond.instanceMethod (mY M_MO_power1) ∈ lw_tbl := tb4 _ (List.mem_of_getElem? (i := 142) (by decide +kernel))
theorem kv_MO_power1 : Cond.selects (mO M_MO_power1) (mY M_MO_power1) (mY M_MO_power1) ∈ lw_tbl := tb4 _ (List.mem_of_getElem? (i := 143) (by decide +kernel))
theorem kc_MO_type : mCode M_MO_type ∈ lw_tbl := tb4 _ (List.mem_of_getElem? (i := 148) rfl)
theorem ki_MO_type : Cond.initialized (mO M_MO_type) ∈ lw_tbl := tb1 _ (List.mem_of_getElem? (i := 8) (by decide +kernel))
theorem kn_MO_type : Cond.instanceMethod (mY M_MO_type) ∈ lw_tbl := tb4 _ (List.mem_of_getElem? (i := 146) (by decide +kernel))
theorem kv_MO_type : Cond.selects (mO M_MO_type) (mY M_MO_type) (mY M_MO_type) ∈ lw_tbl := tb4 _ (List.mem_of_getElem? (i := 147) (by decide +kernel))
theorem kc_MO_wipe : mCode M_MO_wipe ∈ lw_tbl := tb4 _ (List.mem_of_getElem? (i := 152) rfl)
theorem ki_MO_wipe : Cond.initialized (mO M_MO_wipe) ∈ lw_tbl := tb1 _ (List.mem_of_getElem? (i := 8) (by decide +kernel))
theorem kn_MO_wipe : Cond.instanceMethod (mY M_MO_wipe) ∈ lw_tbl := tb4 _ (List.mem_of_getElem? (i := 150) (by decide +kernel))
theorem kv_MO_wipe : Cond.selects (mO M_MO_wipe) (mY M_MO_wipe) (mY M_MO_wipe) ∈ lw_tbl := tb4 _ (List.mem_of_getElem? (i := 151) (by decide +kernel))
theorem kc_MO_cut : mCode M_MO_cut ∈ lw_tbl := tb4 _ (List.mem_of_getElem? (i := 177) rfl)
theorem ki_MO_cut : Cond.initialized (mO M_MO_cut) ∈ lw_tbl := tb1 _ (List.mem_of_getElem? (i := 8) (by decide +kernel))
theorem kn_MO_cut : Cond.instanceMethod (mY M_MO_cut) ∈ lw_tbl := tb4 _ (List.mem_of_getElem? (i := 176) (by decide +kernel))
theorem kv_MO_cut : Cond.selects (mO M_MO_cut) (mY M_MO_cut) (mY M_MO_cut) ∈ lw_tbl := List.mem_of_getElem? (i := 16) (by decide +kernel)
theorem kc_MO_partsOf : mCode M_MO_partsOf ∈ lw_tbl := tb4 _ (List.mem_of_getElem? (i := 173) rfl)
theorem ki_MO_partsOf : Cond.initialized (mO M_MO_partsOf) ∈ lw_tbl := tb1 _ (List.mem_of_getElem? (i := 8) (by decide +kernel))
theorem kn_MO_partsOf : Cond.instanceMethod (mY M_MO_partsOf) ∈ lw_tbl := tb4 _ (List.mem_of_getElem? (i := 172) (by decide +kernel))
theorem kv_MO_partsOf : Cond.selects (mO M_MO_partsOf) (mY M_MO_partsOf) (mY M_MO_partsOf) ∈ lw_tbl := List.mem_of_getElem? (i := 15) (by decide +kernel)
theorem kc_MO_send : mCode M_MO_send ∈ lw_tbl := tb4 _ (List.mem_of_getElem? (i := 156) rfl)
theorem ki_MO_send : Cond.initialized (mO M_MO_send) ∈ lw_tbl := tb1 _ (List.mem_of_getElem? (i := 8) (by decide +kernel))
theorem kn_MO_send : Cond.instanceMethod (mY M_MO_send) ∈ lw_tbl := tb4 _ (List.mem_of_getElem? (i := 154) (by decide +kernel))
theorem kv_MO_send : Cond.selects (mO M_MO_send) (mY M_MO_send) (mY M_MO_send) ∈ lw_tbl := tb4 _ (List.mem_of_getElem? (i := 155) (by decide +kernel))
theorem kc_MO_alter : mCode M_MO_alter ∈ lw_tbl := tb4 _ (List.mem_of_getElem? (i := 215) rfl)
theorem ki_MO_alter : Cond.initialized (mO M_MO_alter) ∈ lw_tbl := tb1 _ (List.mem_of_getElem? (i := 8) (by decide +kernel))
theorem kn_MO_alter : Cond.instanceMethod (mY M_MO_alter) ∈ lw_tbl := tb4 _ (List.mem_of_getElem? (i := 213) (by decide +kernel))
theorem kv_MO_alter : Cond.selects (mO M_MO_alter) (mY M_MO_alter) (mY M_MO_alter) ∈ lw_tbl := tb4 _ (List.mem_of_getElem? (i := 214) (by decide +kernel))
theorem kc_MO_receive : mCode M_MO_receive ∈ lw_tbl := tb4 _ (List.mem_of_getElem? (i := 219) rfl)
theorem ki_MO_receive : Cond.initialized (mO M_MO_receive) ∈ lw_tbl := tb1 _ (List.mem_of_getElem? (i := 8) (by decide +kernel))
theorem kn_MO_receive : Cond.instanceMethod (mY M_MO_receive) ∈ lw_tbl := tb4 _ (List.mem_of_getElem? (i := 217) (by decide +kernel))
theorem kv_MO_receive : Cond.selects (mO M_MO_receive) (mY M_MO_receive) (mY M_MO_receive) ∈ lw_tbl := tb4 _ (List.mem_of_getElem? (i := 218) (by decide +kernel))
theorem kc_MO_keepData : mCode M_MO_keepData ∈ lw_tbl := tb5 _ (List.mem_of_getElem? (i := 15) rfl)
theorem ki_MO_keepData : Cond.initialized (mO M_MO_keepData) ∈ lw_tbl := tb1 _ (List.mem_of_getElem? (i := 8) (by decide +kernel))
theorem kn_MO_keepData : Cond.instanceMethod (mY M_MO_keepData) ∈ lw_tbl := tb5 _ (List.mem_of_getElem? (i := 14) (by decide +kernel))
theorem kv_MO_keepData : Cond.selects (mO M_MO_keepData) (mY M_MO_keepData) (mY M_MO_keepData) ∈ lw_tbl := List.mem_of_getElem? (i := 31) (by decide +kernel)
theorem kc_MO_owner : mCode M_MO_owner ∈ lw_tbl := tb5 _ (List.mem_of_getElem? (i := 40) rfl)
theorem ki_MO_owner : Cond.initialized (mO M_MO_owner) ∈ lw_tbl := tb1 _ (List.mem_of_getElem? (i := 8) (by decide +kernel))
theorem kn_MO_owner : Cond.instanceMethod (mY M_MO_owner) ∈ lw_tbl := tb5 _ (List.mem_of_getElem? (i := 39) (by decide +kernel))
theorem kv_MO_owner : Cond.selects (mO M_MO_owner) (mY M_MO_owner) (mY M_MO_owner) ∈ lw_tbl := List.mem_of_getElem? (i := 36) (by decide +kernel)
theorem kc_MO_moment : mCode M_MO_moment ∈ lw_tbl := tb5 _ (List.mem_of_getElem? (i := 28) rfl)
theorem ki_MO_moment : Cond.initialized (mO M_MO_moment) ∈ lw_tbl := tb1 _ (List.mem_of_getElem? (i := 8) (by decide +kernel))
theorem kn_MO_moment : Cond.instanceMethod (mY M_MO_moment) ∈ lw_tbl := tb5 _ (List.mem_of_getElem? (i := 27) (by decide +kernel))
theorem kv_MO_moment : Cond.selects (mO M_MO_moment) (mY M_MO_moment) (mY M_MO_moment) ∈ lw_tbl := List.mem_of_getElem? (i := 33) (by decide +kernel)
theorem kc_MO_earliest : mCode M_MO_earliest ∈ lw_tbl := tb5 _ (List.mem_of_getElem? (i := 24) rfl)
theorem ki_MO_earliest : Cond.initialized (mO M_MO_earliest) ∈ lw_tbl := tb1 _ (List.mem_of_getElem? (i := 8) (by decide +kernel))
theorem kn_MO_earliest : Cond.instanceMethod (mY M_MO_earliest) ∈ lw_tbl := tb5 _ (List.mem_of_getElem? (i := 23) (by decide +kernel))
theorem kv_MO_earliest : Cond.selects (mO M_MO_earliest) (mY M_MO_earliest) (mY M_MO_earliest) ∈ lw_tbl := List.mem_of_getElem? (i := 32) (by decide +kernel)
theorem kc_MO_settle : mCode M_MO_settle ∈ lw_tbl := tb5 _ (List.mem_of_getElem? (i := 36) rfl)
theorem ki_MO_settle : Cond.initialized (mO M_MO_settle) ∈ lw_tbl := tb1 _ (List.mem_of_getElem? (i := 8) (by decide +kernel))
theorem kn_MO_settle : Cond.instanceMethod (mY M_MO_settle) ∈ lw_tbl := tb5 _ (List.mem_of_getElem? (i := 35) (by decide +kernel))
theorem kv_MO_settle : Cond.selects (mO M_MO_settle) (mY M_MO_settle) (mY M_MO_settle) ∈ lw_tbl := List.mem_of_getElem? (i := 35) (by decide +kernel)
theorem kc_MO_deliver : mCode M_MO_deliver ∈ lw_tbl := tb5 _ (List.mem_of_getElem? (i := 44) rfl)
theorem ki_MO_deliver : Cond.initialized (mO M_MO_deliver) ∈ lw_tbl := tb1 _ (List.mem_of_getElem? (i := 8) (by decide +kernel))
theorem kn_MO_deliver : Cond.instanceMethod (mY M_MO_deliver) ∈ lw_tbl := tb5 _ (List.mem_of_getElem? (i := 43) (by decide +kernel))
theorem kv_MO_deliver : Cond.selects (mO M_MO_deliver) (mY M_MO_deliver) (mY M_MO_deliver) ∈ lw_tbl := List.mem_of_getElem? (i := 37) (by decide +kernel)
theorem kc_MO_deal : mCode M_MO_deal ∈ lw_tbl := tb5 _ (List.mem_of_getElem? (i := 32) rfl)
theorem ki_MO_deal : Cond.initialized (mO M_MO_deal) ∈ lw_tbl := tb1 _ (List.mem_of_getElem? (i := 8) (by decide +kernel))
theorem kn_MO_deal : Cond.instanceMethod (mY M_MO_deal) ∈ lw_tbl := tb5 _ (List.mem_of_getElem? (i := 31) (by decide +kernel))
theorem kv_MO_deal : Cond.selects (mO M_MO_deal) (mY M_MO_deal) (mY M_MO_deal) ∈ lw_tbl := List.mem_of_getElem? (i := 34) (by decide +kernel)
theorem kc_MO_advance : mCode M_MO_advance ∈ lw_tbl := tb5 _ (List.mem_of_getElem? (i := 19) rfl)
theorem ki_MO_advance : Cond.initialized (mO M_MO_advance) ∈ lw_tbl := tb1 _ (List.mem_of_getElem? (i := 8) (by decide +kernel))
theorem kn_MO_advance : Cond.instanceMethod (mY M_MO_advance) ∈ lw_tbl := tb5 _ (List.mem_of_getElem? (i := 17) (by decide +kernel))
theorem kv_MO_advance : Cond.selects (mO M_MO_advance) (mY M_MO_advance) (mY M_MO_advance) ∈ lw_tbl := tb5 _ (List.mem_of_getElem? (i := 18) (by decide +kernel))
theorem kc_MO_decode : mCode M_MO_decode ∈ lw_tbl := tb5 _ (List.mem_of_getElem? (i := 52) rfl)
theorem ki_MO_decode : Cond.initialized (mO M_MO_decode) ∈ lw_tbl := tb1 _ (List.mem_of_getElem? (i := 8) (by decide +kernel))
theorem kn_MO_decode : Cond.instanceMethod (mY M_MO_decode) ∈ lw_tbl := tb5 _ (List.mem_of_getElem? (i := 51) (by decide +kernel))
theorem kv_MO_decode : Cond.selects (mO M_MO_decode) (mY M_MO_decode) (mY M_MO_decode) ∈ lw_tbl := List.mem_of_getElem? (i := 38) (by decide +kernel)
theorem kc_MO_movePile : mCode M_MO_movePile ∈ lw_tbl := tb5 _ (List.mem_of_getElem? (i := 64) rfl)
theorem ki_MO_movePile : Cond.initialized (mO M_MO_movePile) ∈ lw_tbl := tb1 _ (List.mem_of_getElem? (i := 8) (by decide +kernel))
theorem kn_MO_movePile : Cond.instanceMethod (mY M_MO_movePile) ∈ lw_tbl := tb5 _ (List.mem_of_getElem? (i := 63) (by decide +kernel))
theorem kv_MO_movePile : Cond.selects (mO M_MO_movePile) (mY M_MO_movePile) (mY M_MO_movePile) ∈ lw_tbl := List.mem_of_getElem? (i := 41) (by decide +kernel)
theorem kc_MO_dropPile : mCode M_MO_dropPile ∈ lw_tbl := tb5 _ (List.mem_of_getElem? (i := 60) rfl)
theorem ki_MO_dropPile : Cond.initialized (mO M_MO_dropPile) ∈ lw_tbl := tb1 _ (List.mem_of_getElem? (i := 8) (by decide +kernel))
theorem kn_MO_dropPile : Cond.instanceMethod (mY M_MO_dropPile) ∈ lw_tbl := tb5 _ (List.mem_of_getElem? (i := 59) (by decide +kernel))
theorem kv_MO_dropPile : Cond.selects (mO M_MO_dropPile) (mY M_MO_dropPile) (mY M_MO_dropPile) ∈ lw_tbl := List.mem_of_getElem? (i := 40) (by decide +kernel)
theorem kc_MO_pileFor : mCode M_MO_pileFor ∈ lw_tbl := tb5 _ (List.mem_of_getElem? (i := 56) rfl)
theorem ki_MO_pileFor : Cond.initialized (mO M_MO_pileFor) ∈ lw_tbl := tb1 _ (List.mem_of_getElem? (i := 8) (by decide +kernel))
theorem kn_MO_pileFor : Cond.instanceMethod (mY M_MO_pileFor) ∈ lw_tbl := tb5 _ (List.mem_of_getElem? (i := 55) (by decide +kernel))
theorem kv_MO_pileFor : Cond.selects (mO M_MO_pileFor) (mY M_MO_pileFor) (mY M_MO_pileFor) ∈ lw_tbl := List.mem_of_getElem? (i := 39) (by decide +kernel)
theorem kc_MO_together : mCode M_MO_together ∈ lw_tbl := tb5 _ (List.mem_of_getElem? (i := 68) rfl)
theorem ki_MO_together : Cond.initialized (mO M_MO_together) ∈ lw_tbl := tb1 _ (List.mem_of_getElem? (i := 8) (by decide +kernel))
theorem kn_MO_together : Cond.instanceMethod (mY M_MO_together) ∈ lw_tbl := tb5 _ (List.mem_of_getElem? (i := 67) (by decide +kernel))
theorem kv_MO_together : Cond.selects (mO M_MO_together) (mY M_MO_together) (mY M_MO_together) ∈ lw_tbl := List.mem_of_getElem? (i := 42) (by decide +kernel)
theorem kc_MO_take : mCode M_MO_take ∈ lw_tbl := tb5 _ (List.mem_of_getElem? (i := 48) rfl)
theorem ki_MO_take : Cond.initialized (mO M_MO_take) ∈ lw_tbl := tb1 _ (List.mem_of_getElem? (i := 8) (by decide +kernel))
theorem kn_MO_take : Cond.instanceMethod (mY M_MO_take) ∈ lw_tbl := tb5 _ (List.mem_of_getElem? (i := 46) (by decide +kernel))
theorem kv_MO_take : Cond.selects (mO M_MO_take) (mY M_MO_take) (mY M_MO_take) ∈ lw_tbl := tb5 _ (List.mem_of_getElem? (i := 47) (by decide +kernel))
theorem kc_MO_copy : mCode M_MO_copy ∈ lw_tbl := tb5 _ (List.mem_of_getElem? (i := 72) rfl)
theorem ki_MO_copy : Cond.initialized (mO M_MO_copy) ∈ lw_tbl := tb1 _ (List.mem_of_getElem? (i := 8) (by decide +kernel))
theorem kn_MO_copy : Cond.instanceMethod (mY M_MO_copy) ∈ lw_tbl := tb5 _ (List.mem_of_getElem? (i := 70) (by decide +kernel))
theorem kv_MO_copy : Cond.selects (mO M_MO_copy) (mY M_MO_copy) (mY M_MO_copy) ∈ lw_tbl := tb5 _ (List.mem_of_getElem? (i := 71) (by decide +kernel))
theorem kc_MO_swap : mCode M_MO_swap ∈ lw_tbl := tb5 _ (List.mem_of_getElem? (i := 76) rfl)
theorem ki_MO_swap : Cond.initialized (mO M_MO_swap) ∈ lw_tbl := tb1 _ (List.mem_of_getElem? (i := 8) (by decide +kernel))
theorem kn_MO_swap : Cond.instanceMethod (mY M_MO_swap) ∈ lw_tbl := tb5 _ (List.mem_of_getElem? (i := 74) (by decide +kernel))
theorem kv_MO_swap : Cond.selects (mO M_MO_swap) (mY M_MO_swap) (mY M_MO_swap) ∈ lw_tbl := tb5 _ (List.mem_of_getElem? (i := 75) (by decide +kernel))
theorem kc_MO_report : mCode M_MO_report ∈ lw_tbl := tb5 _ (List.mem_of_getElem? (i := 80) rfl)
theorem ki_MO_report : Cond.initialized (mO M_MO_report) ∈ lw_tbl := tb1 _ (List.mem_of_getElem? (i := 8) (by decide +kernel))
theorem kn_MO_report : Cond.instanceMethod (mY M_MO_report) ∈ lw_tbl := tb5 _ (List.mem_of_getElem? (i := 78) (by decide +kernel))
theorem kv_MO_report : Cond.selects (mO M_MO_report) (mY M_MO_report) (mY M_MO_report) ∈ lw_tbl := tb5 _ (List.mem_of_getElem? (i := 79) (by decide +kernel))
theorem kc_MO_waiting : mCode M_MO_waiting ∈ lw_tbl := tb5 _ (List.mem_of_getElem? (i := 84) rfl)
theorem ki_MO_waiting : Cond.initialized (mO M_MO_waiting) ∈ lw_tbl := tb1 _ (List.mem_of_getElem? (i := 8) (by decide +kernel))
theorem kn_MO_waiting : Cond.instanceMethod (mY M_MO_waiting) ∈ lw_tbl := tb5 _ (List.mem_of_getElem? (i := 82) (by decide +kernel))
theorem kv_MO_waiting : Cond.selects (mO M_MO_waiting) (mY M_MO_waiting) (mY M_MO_waiting) ∈ lw_tbl := tb5 _ (List.mem_of_getElem? (i := 83) (by decide +kernel))
theorem kc_MO_byteAt : mCode M_MO_byteAt ∈ lw_tbl := tb5 _ (List.mem_of_getElem? (i := 88) rfl)
theorem ki_MO_byteAt : Cond.initialized (mO M_MO_byteAt) ∈ lw_tbl := tb1 _ (List.mem_of_getElem? (i := 8) (by decide +kernel))
theorem kn_MO_byteAt : Cond.instanceMethod (mY M_MO_byteAt) ∈ lw_tbl := tb5 _ (List.mem_of_getElem? (i := 86) (by decide +kernel))
theorem kv_MO_byteAt : Cond.selects (mO M_MO_byteAt) (mY M_MO_byteAt) (mY M_MO_byteAt) ∈ lw_tbl := tb5 _ (List.mem_of_getElem? (i := 87) (by decide +kernel))
theorem kc_MO_text : mCode M_MO_text ∈ lw_tbl := tb5 _ (List.mem_of_getElem? (i := 92) rfl)
theorem ki_MO_text : Cond.initialized (mO M_MO_text) ∈ lw_tbl := tb1 _ (List.mem_of_getElem? (i := 8) (by decide +kernel))
theorem kn_MO_text : Cond.instanceMethod (mY M_MO_text) ∈ lw_tbl := tb5 _ (List.mem_of_getElem? (i := 90) (by decide +kernel))
theorem kv_MO_text : Cond.selects (mO M_MO_text) (mY M_MO_text) (mY M_MO_text) ∈ lw_tbl := tb5 _ (List.mem_of_getElem? (i := 91) (by decide +kernel))
theorem kc_MO_sender : mCode M_MO_sender ∈ lw_tbl := tb5 _ (List.mem_of_getElem? (i := 96) rfl)
theorem ki_MO_sender : Cond.initialized (mO M_MO_sender) ∈ lw_tbl := tb1 _ (List.mem_of_getElem? (i := 8) (by decide +kernel))
theorem kn_MO_sender : Cond.instanceMethod (mY M_MO_sender) ∈ lw_tbl := tb5 _ (List.mem_of_getElem? (i := 94) (by decide +kernel))
theorem kv_MO_sender : Cond.selects (mO M_MO_sender) (mY M_MO_sender) (mY M_MO_sender) ∈ lw_tbl := tb5 _ (List.mem_of_getElem? (i := 95) (by decide +kernel))
theorem kc_MO_state : mCode M_MO_state ∈ lw_tbl := tb5 _ (List.mem_of_getElem? (i := 100) rfl)
theorem ki_MO_state : Cond.initialized (mO M_MO_state) ∈ lw_tbl := tb1 _ (List.mem_of_getElem? (i := 8) (by decide +kernel))
theorem kn_MO_state : Cond.instanceMethod (mY M_MO_state) ∈ lw_tbl := tb5 _ (List.mem_of_getElem? (i := 98) (by decide +kernel))
theorem kv_MO_state : Cond.selects (mO M_MO_state) (mY M_MO_state) (mY M_MO_state) ∈ lw_tbl := tb5 _ (List.mem_of_getElem? (i := 99) (by decide +kernel))
theorem kc_MO_offers : mCode M_MO_offers ∈ lw_tbl := tb5 _ (List.mem_of_getElem? (i := 104) rfl)
theorem ki_MO_offers : Cond.initialized (mO M_MO_offers) ∈ lw_tbl := tb1 _ (List.mem_of_getElem? (i := 8) (by decide +kernel))
theorem kn_MO_offers : Cond.instanceMethod (mY M_MO_offers) ∈ lw_tbl := tb5 _ (List.mem_of_getElem? (i := 102) (by decide +kernel))
theorem kv_MO_offers : Cond.selects (mO M_MO_offers) (mY M_MO_offers) (mY M_MO_offers) ∈ lw_tbl := tb5 _ (List.mem_of_getElem? (i := 103) (by decide +kernel))
theorem kc_MO_time : mCode M_MO_time ∈ lw_tbl := tb5 _ (List.mem_of_getElem? (i := 108) rfl)
theorem ki_MO_time : Cond.initialized (mO M_MO_time) ∈ lw_tbl := tb1 _ (List.mem_of_getElem? (i := 8) (by decide +kernel))
theorem kn_MO_time : Cond.instanceMethod (mY M_MO_time) ∈ lw_tbl := tb5 _ (List.mem_of_getElem? (i := 106) (by decide +kernel))
theorem kv_MO_time : Cond.selects (mO M_MO_time) (mY M_MO_time) (mY M_MO_time) ∈ lw_tbl := tb5 _ (List.mem_of_getElem? (i := 107) (by decide +kernel))
theorem kc_Al_formOf : mCode M_Al_formOf ∈ lw_tbl := tb1 _ (List.mem_of_getElem? (i := 181) rfl)
theorem ki_Al_formOf : Cond.initialized (mO M_Al_formOf) ∈ lw_tbl := tb1 _ (List.mem_of_getElem? (i := 9) (by decide +kernel))
theorem ks_Al_formOf : Cond.static (mY M_Al_formOf) ∈ lw_tbl := tb1 _ (List.mem_of_getElem? (i := 180) (by decide +kernel))
theorem kc_Al_septetsOf : mCode M_Al_septetsOf ∈ lw_tbl := tb1 _ (List.mem_of_getElem? (i := 214) rfl)
theorem ki_Al_septetsOf : Cond.initialized (mO M_Al_septetsOf) ∈ lw_tbl := tb1 _ (List.mem_of_getElem? (i := 9) (by decide +kernel))
theorem ks_Al_septetsOf : Cond.static (mY M_Al_septetsOf) ∈ lw_tbl := tb1 _ (List.mem_of_getElem? (i := 213) (by decide +kernel))
theorem kc_Al_plain : mCode M_Al_plain ∈ lw_tbl := tb3 _ (List.mem_of_getElem? (i := 178) rfl)
theorem ki_Al_plain : Cond.initialized (mO M_Al_plain) ∈ lw_tbl := tb1 _ (List.mem_of_getElem? (i := 9) (by decide +kernel))
theorem ks_Al_plain : Cond.static (mY M_Al_plain) ∈ lw_tbl := tb3 _ (List.mem_of_getElem? (i := 177) (by decide +kernel))
theorem kc_Al_second : mCode M_Al_second ∈ lw_tbl := tb2 _ (List.mem_of_getElem? (i := 228) rfl)
theorem ki_Al_second : Cond.initialized (mO M_Al_second) ∈ lw_tbl := tb1 _ (List.mem_of_getElem? (i := 9) (by decide +kernel))
theorem ks_Al_second : Cond.static (mY M_Al_second) ∈ lw_tbl := tb2 _ (List.mem_of_getElem? (i := 227) (by decide +kernel))
theorem kc_De_init : mCode M_De_init ∈ lw_tbl := tb1 _ (List.mem_of_getElem? (i := 91) rfl)
theorem ki_De_init : Cond.initialized (mO M_De_init) ∈ lw_tbl := tb1 _ (List.mem_of_getElem? (i := 7) (by decide +kernel))
theorem kn_De_init : Cond.instanceMethod (mY M_De_init) ∈ lw_tbl := tb1 _ (List.mem_of_getElem? (i := 90) (by decide +kernel))
theorem kc_De_nextMessageNumber : mCode M_De_nextMessageNumber ∈ lw_tbl := tb2 _ (List.mem_of_getElem? (i := 25) rfl)
theorem ki_De_nextMessageNumber : Cond.initialized (mO M_De_nextMessageNumber) ∈ lw_tbl := tb1 _ (List.mem_of_getElem? (i := 7) (by decide +kernel))
theorem kn_De_nextMessageNumber : Cond.instanceMethod (mY M_De_nextMessageNumber) ∈ lw_tbl := tb2 _ (List.mem_of_getElem? (i := 23) (by decide +kernel))
theorem kv_De_nextMessageNumber : Cond.selects (mO M_De_nextMessageNumber) (mY M_De_nextMessageNumber) (mY M_De_nextMessageNumber) ∈ lw_tbl := tb2 _ (List.mem_of_getElem? (i := 24) (by decide +kernel))
theorem kc_De_countReference : mCode M_De_countReference ∈ lw_tbl := tb2 _ (List.mem_of_getElem? (i := 143) rfl)
theorem ki_De_countReference : Cond.initialized (mO M_De_countReference) ∈ lw_tbl := tb1 _ (List.mem_of_getElem? (i := 7) (by decide +kernel))
theorem kn_De_countReference : Cond.instanceMethod (mY M_De_countReference) ∈ lw_tbl := tb2 _ (List.mem_of_getElem? (i := 141) (by decide +kernel))
theorem kv_De_countReference : Cond.selects (mO M_De_countReference) (mY M_De_countReference) (mY M_De_countReference) ∈ lw_tbl := tb2 _ (List.mem_of_getElem? (i := 142) (by decide +kernel))
theorem kc_De_read : mCode M_De_read ∈ lw_tbl := tb3 _ (List.mem_of_getElem? (i := 111) rfl)
theorem ki_De_read : Cond.initialized (mO M_De_read) ∈ lw_tbl := tb1 _ (List.mem_of_getElem? (i := 7) (by decide +kernel))
theorem kn_De_read : Cond.instanceMethod (mY M_De_read) ∈ lw_tbl := tb3 _ (List.mem_of_getElem? (i := 109) (by decide +kernel))
theorem kv_De_read : Cond.selects (mO M_De_read) (mY M_De_read) (mY M_De_read) ∈ lw_tbl := tb3 _ (List.mem_of_getElem? (i := 110) (by decide +kernel))
theorem kc_De_gather : mCode M_De_gather ∈ lw_tbl := tb3 _ (List.mem_of_getElem? (i := 117) rfl)
theorem ki_De_gather : Cond.initialized (mO M_De_gather) ∈ lw_tbl := tb1 _ (List.mem_of_getElem? (i := 7) (by decide +kernel))
theorem kn_De_gather : Cond.instanceMethod (mY M_De_gather) ∈ lw_tbl := tb3 _ (List.mem_of_getElem? (i := 116) (by decide +kernel))
theorem kv_De_gather : Cond.selects (mO M_De_gather) (mY M_De_gather) (mY M_De_gather) ∈ lw_tbl := List.mem_of_getElem? (i := 11) (by decide +kernel)
theorem kc_De_pilePlace : mCode M_De_pilePlace ∈ lw_tbl := tb3 _ (List.mem_of_getElem? (i := 126) rfl)
theorem ki_De_pilePlace : Cond.initialized (mO M_De_pilePlace) ∈ lw_tbl := tb1 _ (List.mem_of_getElem? (i := 7) (by decide +kernel))
theorem kn_De_pilePlace : Cond.instanceMethod (mY M_De_pilePlace) ∈ lw_tbl := tb3 _ (List.mem_of_getElem? (i := 125) (by decide +kernel))
theorem kv_De_pilePlace : Cond.selects (mO M_De_pilePlace) (mY M_De_pilePlace) (mY M_De_pilePlace) ∈ lw_tbl := List.mem_of_getElem? (i := 12) (by decide +kernel)
theorem kc_Dr_init : mCode M_Dr_init ∈ lw_tbl := tb1 _ (List.mem_of_getElem? (i := 75) rfl)
theorem ki_Dr_init : Cond.initialized (mO M_Dr_init) ∈ lw_tbl := tb1 _ (List.mem_of_getElem? (i := 6) (by decide +kernel))
theorem kn_Dr_init : Cond.instanceMethod (mY M_Dr_init) ∈ lw_tbl := tb1 _ (List.mem_of_getElem? (i := 74) (by decide +kernel))
theorem kc_Dr_room : mCode M_Dr_room ∈ lw_tbl := tb1 _ (List.mem_of_getElem? (i := 178) rfl)
theorem ki_Dr_room : Cond.initialized (mO M_Dr_room) ∈ lw_tbl := tb1 _ (List.mem_of_getElem? (i := 6) (by decide +kernel))
theorem kn_Dr_room : Cond.instanceMethod (mY M_Dr_room) ∈ lw_tbl := tb1 _ (List.mem_of_getElem? (i := 176) (by decide +kernel))
theorem kv_Dr_room : Cond.selects (mO M_Dr_room) (mY M_Dr_room) (mY M_Dr_room) ∈ lw_tbl := tb1 _ (List.mem_of_getElem? (i := 177) (by decide +kernel))
theorem kc_Dr_append : mCode M_Dr_append ∈ lw_tbl := tb1 _ (List.mem_of_getElem? (i := 191) rfl)
theorem ki_Dr_append : Cond.initialized (mO M_Dr_append) ∈ lw_tbl := tb1 _ (List.mem_of_getElem? (i := 6) (by decide +kernel))
theorem kn_Dr_append : Cond.instanceMethod (mY M_Dr_append) ∈ lw_tbl := tb1 _ (List.mem_of_getElem? (i := 189) (by decide +kernel))
theorem kv_Dr_append : Cond.selects (mO M_Dr_append) (mY M_Dr_append) (mY M_Dr_append) ∈ lw_tbl := tb1 _ (List.mem_of_getElem? (i := 190) (by decide +kernel))
theorem kc_Dr_hasAlien : mCode M_Dr_hasAlien ∈ lw_tbl := tb1 _ (List.mem_of_getElem? (i := 203) rfl)
theorem ki_Dr_hasAlien : Cond.initialized (mO M_Dr_hasAlien) ∈ lw_tbl := tb1 _ (List.mem_of_getElem? (i := 6) (by decide +kernel))
theorem kn_Dr_hasAlien : Cond.instanceMethod (mY M_Dr_hasAlien) ∈ lw_tbl := tb1 _ (List.mem_of_getElem? (i := 201) (by decide +kernel))
theorem kv_Dr_hasAlien : Cond.selects (mO M_Dr_hasAlien) (mY M_Dr_hasAlien) (mY M_Dr_hasAlien) ∈ lw_tbl := tb1 _ (List.mem_of_getElem? (i := 202) (by decide +kernel))
theorem kc_Dr_septets : mCode M_Dr_septets ∈ lw_tbl := tb1 _ (List.mem_of_getElem? (i := 211) rfl)
theorem ki_Dr_septets : Cond.initialized (mO M_Dr_septets) ∈ lw_tbl := tb1 _ (List.mem_of_getElem? (i := 6) (by decide +kernel))
theorem kn_Dr_septets : Cond.instanceMethod (mY M_Dr_septets) ∈ lw_tbl := tb1 _ (List.mem_of_getElem? (i := 209) (by decide +kernel))
theorem kv_Dr_septets : Cond.selects (mO M_Dr_septets) (mY M_Dr_septets) (mY M_Dr_septets) ∈ lw_tbl := tb1 _ (List.mem_of_getElem? (i := 210) (by decide +kernel))
theorem kc_Dr_partCount : mCode M_Dr_partCount ∈ lw_tbl := tb1 _ (List.mem_of_getElem? (i := 207) rfl)
theorem ki_Dr_partCount : Cond.initialized (mO M_Dr_partCount) ∈ lw_tbl := tb1 _ (List.mem_of_getElem? (i := 6) (by decide +kernel))
theorem kn_Dr_partCount : Cond.instanceMethod (mY M_Dr_partCount) ∈ lw_tbl := tb1 _ (List.mem_of_getElem? (i := 205) (by decide +kernel))
theorem kv_Dr_partCount : Cond.selects (mO M_Dr_partCount) (mY M_Dr_partCount) (mY M_Dr_partCount) ∈ lw_tbl := tb1 _ (List.mem_of_getElem? (i := 206) (by decide +kernel))
theorem kc_Dr_partEnd : mCode M_Dr_partEnd ∈ lw_tbl := tb1 _ (List.mem_of_getElem? (i := 230) rfl)
theorem ki_Dr_partEnd : Cond.initialized (mO M_Dr_partEnd) ∈ lw_tbl := tb1 _ (List.mem_of_getElem? (i := 6) (by decide +kernel))
theorem kn_Dr_partEnd : Cond.instanceMethod (mY M_Dr_partEnd) ∈ lw_tbl := tb1 _ (List.mem_of_getElem? (i := 228) (by decide +kernel))
theorem kv_Dr_partEnd : Cond.selects (mO M_Dr_partEnd) (mY M_Dr_partEnd) (mY M_Dr_partEnd) ∈ lw_tbl := tb1 _ (List.mem_of_getElem? (i := 229) (by decide +kernel))
theorem kc_Dr_pack : mCode M_Dr_pack ∈ lw_tbl := tb2 _ (List.mem_of_getElem? (i := 58) rfl)
theorem ki_Dr_pack : Cond.initialized (mO M_Dr_pack) ∈ lw_tbl := tb1 _ (List.mem_of_getElem? (i := 6) (by decide +kernel))
theorem kn_Dr_pack : Cond.instanceMethod (mY M_Dr_pack) ∈ lw_tbl := tb2 _ (List.mem_of_getElem? (i := 56) (by decide +kernel))
theorem kv_Dr_pack : Cond.selects (mO M_Dr_pack) (mY M_Dr_pack) (mY M_Dr_pack) ∈ lw_tbl := tb2 _ (List.mem_of_getElem? (i := 57) (by decide +kernel))
theorem kc_Li_init : mCode M_Li_init ∈ lw_tbl := tb1 _ (List.mem_of_getElem? (i := 36) rfl)
theorem ki_Li_init : Cond.initialized (mO M_Li_init) ∈ lw_tbl := tb1 _ (List.mem_of_getElem? (i := 2) (by decide +kernel))
theorem kn_Li_init : Cond.instanceMethod (mY M_Li_init) ∈ lw_tbl := tb1 _ (List.mem_of_getElem? (i := 35) (by decide +kernel))
theorem kc_Li_size : mCode M_Li_size ∈ lw_tbl := tb3 _ (List.mem_of_getElem? (i := 213) rfl)
theorem ki_Li_size : Cond.initialized (mO M_Li_size) ∈ lw_tbl := tb1 _ (List.mem_of_getElem? (i := 2) (by decide +kernel))
theorem kn_Li_size : Cond.instanceMethod (mY M_Li_size) ∈ lw_tbl := tb3 _ (List.mem_of_getElem? (i := 211) (by decide +kernel))
theorem kv_Li_size : Cond.selects (mO M_Li_size) (mY M_Li_size) (mY M_Li_size) ∈ lw_tbl := tb3 _ (List.mem_of_getElem? (i := 212) (by decide +kernel))
theorem kc_Li_room : mCode M_Li_room ∈ lw_tbl := tb1 _ (List.mem_of_getElem? (i := 218) rfl)
theorem ki_Li_room : Cond.initialized (mO M_Li_room) ∈ lw_tbl := tb1 _ (List.mem_of_getElem? (i := 2) (by decide +kernel))
theorem kn_Li_room : Cond.instanceMethod (mY M_Li_room) ∈ lw_tbl := tb1 _ (List.mem_of_getElem? (i := 216) (by decide +kernel))
theorem kv_Li_room : Cond.selects (mO M_Li_room) (mY M_Li_room) (mY M_Li_room) ∈ lw_tbl := tb1 _ (List.mem_of_getElem? (i := 217) (by decide +kernel))
theorem kc_Li_append : mCode M_Li_append ∈ lw_tbl := tb2 _ (List.mem_of_getElem? (i := 82) rfl)
theorem ki_Li_append : Cond.initialized (mO M_Li_append) ∈ lw_tbl := tb1 _ (List.mem_of_getElem? (i := 2) (by decide +kernel))
theorem kn_Li_append : Cond.instanceMethod (mY M_Li_append) ∈ lw_tbl := tb2 _ (List.mem_of_getElem? (i := 80) (by decide +kernel))
theorem kv_Li_append : Cond.selects (mO M_Li_append) (mY M_Li_append) (mY M_Li_append) ∈ lw_tbl := tb2 _ (List.mem_of_getElem? (i := 81) (by decide +kernel))
theorem kc_Li_first : mCode M_Li_first ∈ lw_tbl := tb2 _ (List.mem_of_getElem? (i := 151) rfl)
theorem ki_Li_first : Cond.initialized (mO M_Li_first) ∈ lw_tbl := tb1 _ (List.mem_of_getElem? (i := 2) (by decide +kernel))
theorem kn_Li_first : Cond.instanceMethod (mY M_Li_first) ∈ lw_tbl := tb2 _ (List.mem_of_getElem? (i := 149) (by decide +kernel))
theorem kv_Li_first : Cond.selects (mO M_Li_first) (mY M_Li_first) (mY M_Li_first) ∈ lw_tbl := tb2 _ (List.mem_of_getElem? (i := 150) (by decide +kernel))
theorem kc_Li_removeFirst : mCode M_Li_removeFirst ∈ lw_tbl := tb2 _ (List.mem_of_getElem? (i := 184) rfl)
theorem ki_Li_removeFirst : Cond.initialized (mO M_Li_removeFirst) ∈ lw_tbl := tb1 _ (List.mem_of_getElem? (i := 2) (by decide +kernel))
theorem kn_Li_removeFirst : Cond.instanceMethod (mY M_Li_removeFirst) ∈ lw_tbl := tb2 _ (List.mem_of_getElem? (i := 182) (by decide +kernel))
theorem kv_Li_removeFirst : Cond.selects (mO M_Li_removeFirst) (mY M_Li_removeFirst) (mY M_Li_removeFirst) ∈ lw_tbl := tb2 _ (List.mem_of_getElem? (i := 183) (by decide +kernel))
theorem kc_Li_exchangeFirstTwo : mCode M_Li_exchangeFirstTwo ∈ lw_tbl := tb3 _ (List.mem_of_getElem? (i := 191) rfl)
theorem ki_Li_exchangeFirstTwo : Cond.initialized (mO M_Li_exchangeFirstTwo) ∈ lw_tbl := tb1 _ (List.mem_of_getElem? (i := 2) (by decide +kernel))
theorem kn_Li_exchangeFirstTwo : Cond.instanceMethod (mY M_Li_exchangeFirstTwo) ∈ lw_tbl := tb3 _ (List.mem_of_getElem? (i := 189) (by decide +kernel))
theorem kv_Li_exchangeFirstTwo : Cond.selects (mO M_Li_exchangeFirstTwo) (mY M_Li_exchangeFirstTwo) (mY M_Li_exchangeFirstTwo) ∈ lw_tbl := tb3 _ (List.mem_of_getElem? (i := 190) (by decide +kernel))
theorem kc_Me_init : mCode M_Me_init ∈ lw_tbl := tb2 _ (List.mem_of_getElem? (i := 233) rfl)
theorem ki_Me_init : Cond.initialized (mO M_Me_init) ∈ lw_tbl := tb1 _ (List.mem_of_getElem? (i := 18) (by decide +kernel))
theorem kn_Me_init : Cond.instanceMethod (mY M_Me_init) ∈ lw_tbl := tb2 _ (List.mem_of_getElem? (i := 232) (by decide +kernel))
theorem kc_Me_moment : mCode M_Me_moment ∈ lw_tbl := tb3 _ (List.mem_of_getElem? (i := 51) rfl)
theorem ki_Me_moment : Cond.initialized (mO M_Me_moment) ∈ lw_tbl := tb1 _ (List.mem_of_getElem? (i := 18) (by decide +kernel))
theorem kn_Me_moment : Cond.instanceMethod (mY M_Me_moment) ∈ lw_tbl := tb3 _ (List.mem_of_getElem? (i := 49) (by decide +kernel))
theorem kv_Me_moment : Cond.selects (mO M_Me_moment) (mY M_Me_moment) (mY M_Me_moment) ∈ lw_tbl := tb3 _ (List.mem_of_getElem? (i := 50) (by decide +kernel))
theorem kc_Me_putOff : mCode M_Me_putOff ∈ lw_tbl := tb3 _ (List.mem_of_getElem? (i := 92) rfl)
theorem ki_Me_putOff : Cond.initialized (mO M_Me_putOff) ∈ lw_tbl := tb1 _ (List.mem_of_getElem? (i := 18) (by decide +kernel))
theorem kn_Me_putOff : Cond.instanceMethod (mY M_Me_putOff) ∈ lw_tbl := tb3 _ (List.mem_of_getElem? (i := 90) (by decide +kernel))
theorem kv_Me_putOff : Cond.selects (mO M_Me_putOff) (mY M_Me_putOff) (mY M_Me_putOff) ∈ lw_tbl := tb3 _ (List.mem_of_getElem? (i := 91) (by decide +kernel))
theorem kc_Me_asDeliver : mCode M_Me_asDeliver ∈ lw_tbl := tb3 _ (List.mem_of_getElem? (i := 68) rfl)
theorem ki_Me_asDeliver : Cond.initialized (mO M_Me_asDeliver) ∈ lw_tbl := tb1 _ (List.mem_of_getElem? (i := 18) (by decide +kernel))
theorem kn_Me_asDeliver : Cond.instanceMethod (mY M_Me_asDeliver) ∈ lw_tbl := tb3 _ (List.mem_of_getElem? (i := 66) (by decide +kernel))
theorem kv_Me_asDeliver : Cond.selects (mO M_Me_asDeliver) (mY M_Me_asDeliver) (mY M_Me_asDeliver) ∈ lw_tbl := tb3 _ (List.mem_of_getElem? (i := 67) (by decide +kernel))
theorem kc_Me_fileReport : mCode M_Me_fileReport ∈ lw_tbl := tb3 _ (List.mem_of_getElem? (i := 98) rfl)
theorem ki_Me_fileReport : Cond.initialized (mO M_Me_fileReport) ∈ lw_tbl := tb1 _ (List.mem_of_getElem? (i := 18) (by decide +kernel))
theorem kn_Me_fileReport : Cond.instanceMethod (mY M_Me_fileReport) ∈ lw_tbl := tb3 _ (List.mem_of_getElem? (i := 96) (by decide +kernel))
theorem kv_Me_fileReport : Cond.selects (mO M_Me_fileReport) (mY M_Me_fileReport) (mY M_Me_fileReport) ∈ lw_tbl := tb3 _ (List.mem_of_getElem? (i := 97) (by decide +kernel))
theorem kc_Pi_init : mCode M_Pi_init ∈ lw_tbl := tb3 _ (List.mem_of_getElem? (i := 138) rfl)
theorem ki_Pi_init : Cond.initialized (mO M_Pi_init) ∈ lw_tbl := tb1 _ (List.mem_of_getElem? (i := 21) (by decide +kernel))
theorem kn_Pi_init : Cond.instanceMethod (mY M_Pi_init) ∈ lw_tbl := tb3 _ (List.mem_of_getElem? (i := 137) (by decide +kernel))
theorem kc_Pi_gathers : mCode M_Pi_gathers ∈ lw_tbl := tb3 _ (List.mem_of_getElem? (i := 133) rfl)
theorem ki_Pi_gathers : Cond.initialized (mO M_Pi_gathers) ∈ lw_tbl := tb1 _ (List.mem_of_getElem? (i := 21) (by decide +kernel))
theorem kn_Pi_gathers : Cond.instanceMethod (mY M_Pi_gathers) ∈ lw_tbl := tb3 _ (List.mem_of_getElem? (i := 131) (by decide +kernel))
theorem kv_Pi_gathers : Cond.selects (mO M_Pi_gathers) (mY M_Pi_gathers) (mY M_Pi_gathers) ∈ lw_tbl := tb3 _ (List.mem_of_getElem? (i := 132) (by decide +kernel))
theorem kc_Pi_keep : mCode M_Pi_keep ∈ lw_tbl := tb3 _ (List.mem_of_getElem? (i := 159) rfl)
theorem ki_Pi_keep : Cond.initialized (mO M_Pi_keep) ∈ lw_tbl := tb1 _ (List.mem_of_getElem? (i := 21) (by decide +kernel))
theorem kn_Pi_keep : Cond.instanceMethod (mY M_Pi_keep) ∈ lw_tbl := tb3 _ (List.mem_of_getElem? (i := 157) (by decide +kernel))
theorem kv_Pi_keep : Cond.selects (mO M_Pi_keep) (mY M_Pi_keep) (mY M_Pi_keep) ∈ lw_tbl := tb3 _ (List.mem_of_getElem? (i := 158) (by decide +kernel))
theorem kc_Pi_lacking : mCode M_Pi_lacking ∈ lw_tbl := tb3 _ (List.mem_of_getElem? (i := 163) rfl)
theorem ki_Pi_lacking : Cond.initialized (mO M_Pi_lacking) ∈ lw_tbl := tb1 _ (List.mem_of_getElem? (i := 21) (by decide +kernel))
theorem kn_Pi_lacking : Cond.instanceMethod (mY M_Pi_lacking) ∈ lw_tbl := tb3 _ (List.mem_of_getElem? (i := 161) (by decide +kernel))
theorem kv_Pi_lacking : Cond.selects (mO M_Pi_lacking) (mY M_Pi_lacking) (mY M_Pi_lacking) ∈ lw_tbl := tb3 _ (List.mem_of_getElem? (i := 162) (by decide +kernel))
theorem kc_Pi_readText : mCode M_Pi_readText ∈ lw_tbl := tb3 _ (List.mem_of_getElem? (i := 167) rfl)
theorem ki_Pi_readText : Cond.initialized (mO M_Pi_readText) ∈ lw_tbl := tb1 _ (List.mem_of_getElem? (i := 21) (by decide +kernel))
theorem kn_Pi_readText : Cond.instanceMethod (mY M_Pi_readText) ∈ lw_tbl := tb3 _ (List.mem_of_getElem? (i := 165) (by decide +kernel))
theorem kv_Pi_readText : Cond.selects (mO M_Pi_readText) (mY M_Pi_readText) (mY M_Pi_readText) ∈ lw_tbl := tb3 _ (List.mem_of_getElem? (i := 166) (by decide +kernel))
theorem kc_Ro_init : mCode M_Ro_init ∈ lw_tbl := tb2 _ (List.mem_of_getElem? (i := 9) rfl)
theorem ki_Ro_init : Cond.initialized (mO M_Ro_init) ∈ lw_tbl := tb1 _ (List.mem_of_getElem? (i := 10) (by decide +kernel))
theorem kn_Ro_init : Cond.instanceMethod (mY M_Ro_init) ∈ lw_tbl := tb2 _ (List.mem_of_getElem? (i := 8) (by decide +kernel))
theorem kc_Ro_digitsOf : mCode M_Ro_digitsOf ∈ lw_tbl := tb1 _ (List.mem_of_getElem? (i := 239) rfl)
theorem ki_Ro_digitsOf : Cond.initialized (mO M_Ro_digitsOf) ∈ lw_tbl := tb1 _ (List.mem_of_getElem? (i := 10) (by decide +kernel))
theorem ks_Ro_digitsOf : Cond.static (mY M_Ro_digitsOf) ∈ lw_tbl := tb1 _ (List.mem_of_getElem? (i := 238) (by decide +kernel))
theorem kc_Ro_addressSize : mCode M_Ro_addressSize ∈ lw_tbl := tb2 _ (List.mem_of_getElem? (i := 3) rfl)
theorem ki_Ro_addressSize : Cond.initialized (mO M_Ro_addressSize) ∈ lw_tbl := tb1 _ (List.mem_of_getElem? (i := 10) (by decide +kernel))
theorem ks_Ro_addressSize : Cond.static (mY M_Ro_addressSize) ∈ lw_tbl := tb2 _ (List.mem_of_getElem? (i := 2) (by decide +kernel))
theorem kc_Ro_dataSize : mCode M_Ro_dataSize ∈ lw_tbl := tb2 _ (List.mem_of_getElem? (i := 6) rfl)
theorem ki_Ro_dataSize : Cond.initialized (mO M_Ro_dataSize) ∈ lw_tbl := tb1 _ (List.mem_of_getElem? (i := 10) (by decide +kernel))
theorem ks_Ro_dataSize : Cond.static (mY M_Ro_dataSize) ∈ lw_tbl := tb2 _ (List.mem_of_getElem? (i := 5) (by decide +kernel))
theorem kc_Ro_submitSize : mCode M_Ro_submitSize ∈ lw_tbl := tb1 _ (List.mem_of_getElem? (i := 236) rfl)
theorem ki_Ro_submitSize : Cond.initialized (mO M_Ro_submitSize) ∈ lw_tbl := tb1 _ (List.mem_of_getElem? (i := 10) (by decide +kernel))
theorem ks_Ro_submitSize : Cond.static (mY M_Ro_submitSize) ∈ lw_tbl := tb1 _ (List.mem_of_getElem? (i := 235) (by decide +kernel))
theorem kc_Ro_deliverSize : mCode M_Ro_deliverSize ∈ lw_tbl := tb3 _ (List.mem_of_getElem? (i := 73) rfl)
theorem ki_Ro_deliverSize : Cond.initialized (mO M_Ro_deliverSize) ∈ lw_tbl := tb1 _ (List.mem_of_getElem? (i := 10) (by decide +kernel))
theorem ks_Ro_deliverSize : Cond.static (mY M_Ro_deliverSize) ∈ lw_tbl := tb3 _ (List.mem_of_getElem? (i := 72) (by decide +kernel))
theorem kc_Ro_reportSize : mCode M_Ro_reportSize ∈ lw_tbl := tb3 _ (List.mem_of_getElem? (i := 102) rfl)
theorem ki_Ro_reportSize : Cond.initialized (mO M_Ro_reportSize) ∈ lw_tbl := tb1 _ (List.mem_of_getElem? (i := 10) (by decide +kernel))
theorem ks_Ro_reportSize : Cond.static (mY M_Ro_reportSize) ∈ lw_tbl := tb3 _ (List.mem_of_getElem? (i := 101) (by decide +kernel))
theorem kc_Ro_size : mCode M_Ro_size ∈ lw_tbl := tb2 _ (List.mem_of_getElem? (i := 212) rfl)
theorem ki_Ro_size : Cond.initialized (mO M_Ro_size) ∈ lw_tbl := tb1 _ (List.mem_of_getElem? (i := 10) (by decide +kernel))
theorem kn_Ro_size : Cond.instanceMethod (mY M_Ro_size) ∈ lw_tbl := tb2 _ (List.mem_of_getElem? (i := 210) (by decide +kernel))
theorem kv_Ro_size : Cond.selects (mO M_Ro_size) (mY M_Ro_size) (mY M_Ro_size) ∈ lw_tbl := tb2 _ (List.mem_of_getElem? (i := 211) (by decide +kernel))
theorem kc_Ro_has : mCode M_Ro_has ∈ lw_tbl := tb2 _ (List.mem_of_getElem? (i := 37) rfl)
theorem ki_Ro_has : Cond.initialized (mO M_Ro_has) ∈ lw_tbl := tb1 _ (List.mem_of_getElem? (i := 10) (by decide +kernel))
theorem kn_Ro_has : Cond.instanceMethod (mY M_Ro_has) ∈ lw_tbl := tb2 _ (List.mem_of_getElem? (i := 35) (by decide +kernel))
theorem kv_Ro_has : Cond.selects (mO M_Ro_has) (mY M_Ro_has) (mY M_Ro_has) ∈ lw_tbl := tb2 _ (List.mem_of_getElem? (i := 36) (by decide +kernel))
theorem kc_Ro_at : mCode M_Ro_at ∈ lw_tbl := tb2 _ (List.mem_of_getElem? (i := 66) rfl)
theorem ki_Ro_at : Cond.initialized (mO M_Ro_at) ∈ lw_tbl := tb1 _ (List.mem_of_getElem? (i := 10) (by decide +kernel))
theorem kn_Ro_at : Cond.instanceMethod (mY M_Ro_at) ∈ lw_tbl := tb2 _ (List.mem_of_getElem? (i := 64) (by decide +kernel))
theorem kv_Ro_at : Cond.selects (mO M_Ro_at) (mY M_Ro_at) (mY M_Ro_at) ∈ lw_tbl := tb2 _ (List.mem_of_getElem? (i := 65) (by decide +kernel))
theorem kc_Ro_flip : mCode M_Ro_flip ∈ lw_tbl := tb2 _ (List.mem_of_getElem? (i := 175) rfl)
theorem ki_Ro_flip : Cond.initialized (mO M_Ro_flip) ∈ lw_tbl := tb1 _ (List.mem_of_getElem? (i := 10) (by decide +kernel))
theorem kn_Ro_flip : Cond.instanceMethod (mY M_Ro_flip) ∈ lw_tbl := tb2 _ (List.mem_of_getElem? (i := 173) (by decide +kernel))
theorem kv_Ro_flip : Cond.selects (mO M_Ro_flip) (mY M_Ro_flip) (mY M_Ro_flip) ∈ lw_tbl := tb2 _ (List.mem_of_getElem? (i := 174) (by decide +kernel))
theorem kc_Ro_put : mCode M_Ro_put ∈ lw_tbl := tb2 _ (List.mem_of_getElem? (i := 33) rfl)
theorem ki_Ro_put : Cond.initialized (mO M_Ro_put) ∈ lw_tbl := tb1 _ (List.mem_of_getElem? (i := 10) (by decide +kernel))
theorem kn_Ro_put : Cond.instanceMethod (mY M_Ro_put) ∈ lw_tbl := tb2 _ (List.mem_of_getElem? (i := 31) (by decide +kernel))
theorem kv_Ro_put : Cond.selects (mO M_Ro_put) (mY M_Ro_put) (mY M_Ro_put) ∈ lw_tbl := tb2 _ (List.mem_of_getElem? (i := 32) (by decide +kernel))
theorem kc_Ro_merge : mCode M_Ro_merge ∈ lw_tbl := tb2 _ (List.mem_of_getElem? (i := 49) rfl)
theorem ki_Ro_merge : Cond.initialized (mO M_Ro_merge) ∈ lw_tbl := tb1 _ (List.mem_of_getElem? (i := 10) (by decide +kernel))
theorem kn_Ro_merge : Cond.instanceMethod (mY M_Ro_merge) ∈ lw_tbl := tb2 _ (List.mem_of_getElem? (i := 48) (by decide +kernel))
theorem kv_Ro_merge : Cond.selects (mO M_Ro_merge) (mY M_Ro_merge) (mY M_Ro_merge) ∈ lw_tbl := List.mem_of_getElem? (i := 3) (by decide +kernel)
theorem kc_Ro_putDigits : mCode M_Ro_putDigits ∈ lw_tbl := tb2 _ (List.mem_of_getElem? (i := 45) rfl)
theorem ki_Ro_putDigits : Cond.initialized (mO M_Ro_putDigits) ∈ lw_tbl := tb1 _ (List.mem_of_getElem? (i := 10) (by decide +kernel))
theorem kn_Ro_putDigits : Cond.instanceMethod (mY M_Ro_putDigits) ∈ lw_tbl := tb2 _ (List.mem_of_getElem? (i := 44) (by decide +kernel))
theorem kv_Ro_putDigits : Cond.selects (mO M_Ro_putDigits) (mY M_Ro_putDigits) (mY M_Ro_putDigits) ∈ lw_tbl := List.mem_of_getElem? (i := 2) (by decide +kernel)
theorem kc_Ro_putAddress : mCode M_Ro_putAddress ∈ lw_tbl := tb2 _ (List.mem_of_getElem? (i := 41) rfl)
theorem ki_Ro_putAddress : Cond.initialized (mO M_Ro_putAddress) ∈ lw_tbl := tb1 _ (List.mem_of_getElem? (i := 10) (by decide +kernel))
theorem kn_Ro_putAddress : Cond.instanceMethod (mY M_Ro_putAddress) ∈ lw_tbl := tb2 _ (List.mem_of_getElem? (i := 39) (by decide +kernel))
theorem kv_Ro_putAddress : Cond.selects (mO M_Ro_putAddress) (mY M_Ro_putAddress) (mY M_Ro_putAddress) ∈ lw_tbl := tb2 _ (List.mem_of_getElem? (i := 40) (by decide +kernel))
theorem kc_Ro_putTime : mCode M_Ro_putTime ∈ lw_tbl := tb3 _ (List.mem_of_getElem? (i := 81) rfl)
theorem ki_Ro_putTime : Cond.initialized (mO M_Ro_putTime) ∈ lw_tbl := tb1 _ (List.mem_of_getElem? (i := 10) (by decide +kernel))
theorem kn_Ro_putTime : Cond.instanceMethod (mY M_Ro_putTime) ∈ lw_tbl := tb3 _ (List.mem_of_getElem? (i := 79) (by decide +kernel))
theorem kv_Ro_putTime : Cond.selects (mO M_Ro_putTime) (mY M_Ro_putTime) (mY M_Ro_putTime) ∈ lw_tbl := tb3 _ (List.mem_of_getElem? (i := 80) (by decide +kernel))
theorem kc_Ro_putSubmitHead : mCode M_Ro_putSubmitHead ∈ lw_tbl := tb2 _ (List.mem_of_getElem? (i := 29) rfl)
theorem ki_Ro_putSubmitHead : Cond.initialized (mO M_Ro_putSubmitHead) ∈ lw_tbl := tb1 _ (List.mem_of_getElem? (i := 10) (by decide +kernel))
theorem kn_Ro_putSubmitHead : Cond.instanceMethod (mY M_Ro_putSubmitHead) ∈ lw_tbl := tb2 _ (List.mem_of_getElem? (i := 27) (by decide +kernel))
theorem kv_Ro_putSubmitHead : Cond.selects (mO M_Ro_putSubmitHead) (mY M_Ro_putSubmitHead) (mY M_Ro_putSubmitHead) ∈ lw_tbl := tb2 _ (List.mem_of_getElem? (i := 28) (by decide +kernel))
theorem kc_Ro_putHeader : mCode M_Ro_putHeader ∈ lw_tbl := tb2 _ (List.mem_of_getElem? (i := 54) rfl)
theorem ki_Ro_putHeader : Cond.initialized (mO M_Ro_putHeader) ∈ lw_tbl := tb1 _ (List.mem_of_getElem? (i := 10) (by decide +kernel))
theorem kn_Ro_putHeader : Cond.instanceMethod (mY M_Ro_putHeader) ∈ lw_tbl := tb2 _ (List.mem_of_getElem? (i := 52) (by decide +kernel))
theorem kv_Ro_putHeader : Cond.selects (mO M_Ro_putHeader) (mY M_Ro_putHeader) (mY M_Ro_putHeader) ∈ lw_tbl := tb2 _ (List.mem_of_getElem? (i := 53) (by decide +kernel))
theorem kc_Ro_putRest : mCode M_Ro_putRest ∈ lw_tbl := tb3 _ (List.mem_of_getElem? (i := 85) rfl)
theorem ki_Ro_putRest : Cond.initialized (mO M_Ro_putRest) ∈ lw_tbl := tb1 _ (List.mem_of_getElem? (i := 10) (by decide +kernel))
theorem kn_Ro_putRest : Cond.instanceMethod (mY M_Ro_putRest) ∈ lw_tbl := tb3 _ (List.mem_of_getElem? (i := 83) (by decide +kernel))
theorem kv_Ro_putRest : Cond.selects (mO M_Ro_putRest) (mY M_Ro_putRest) (mY M_Ro_putRest) ∈ lw_tbl := tb3 _ (List.mem_of_getElem? (i := 84) (by decide +kernel))
theorem kc_Ro_mergeSeptet : mCode M_Ro_mergeSeptet ∈ lw_tbl := tb2 _ (List.mem_of_getElem? (i := 78) rfl)
theorem ki_Ro_mergeSeptet : Cond.initialized (mO M_Ro_mergeSeptet) ∈ lw_tbl := tb1 _ (List.mem_of_getElem? (i := 10) (by decide +kernel))
theorem kn_Ro_mergeSeptet : Cond.instanceMethod (mY M_Ro_mergeSeptet) ∈ lw_tbl := tb2 _ (List.mem_of_getElem? (i := 76) (by decide +kernel))
theorem kv_Ro_mergeSeptet : Cond.selects (mO M_Ro_mergeSeptet) (mY M_Ro_mergeSeptet) (mY M_Ro_mergeSeptet) ∈ lw_tbl := tb2 _ (List.mem_of_getElem? (i := 77) (by decide +kernel))
theorem kc_Ro_septetAt : mCode M_Ro_septetAt ∈ lw_tbl := tb2 _ (List.mem_of_getElem? (i := 225) rfl)
theorem ki_Ro_septetAt : Cond.initialized (mO M_Ro_septetAt) ∈ lw_tbl := tb1 _ (List.mem_of_getElem? (i := 10) (by decide +kernel))
theorem kn_Ro_septetAt : Cond.instanceMethod (mY M_Ro_septetAt) ∈ lw_tbl := tb2 _ (List.mem_of_getElem? (i := 223) (by decide +kernel))
theorem kv_Ro_septetAt : Cond.selects (mO M_Ro_septetAt) (mY M_Ro_septetAt) (mY M_Ro_septetAt) ∈ lw_tbl := tb2 _ (List.mem_of_getElem? (i := 224) (by decide +kernel))
theorem kc_Ro_digitAt : mCode M_Ro_digitAt ∈ lw_tbl := tb2 _ (List.mem_of_getElem? (i := 204) rfl)
theorem ki_Ro_digitAt : Cond.initialized (mO M_Ro_digitAt) ∈ lw_tbl := tb1 _ (List.mem_of_getElem? (i := 10) (by decide +kernel))
theorem kn_Ro_digitAt : Cond.instanceMethod (mY M_Ro_digitAt) ∈ lw_tbl := tb2 _ (List.mem_of_getElem? (i := 202) (by decide +kernel))
theorem kv_Ro_digitAt : Cond.selects (mO M_Ro_digitAt) (mY M_Ro_digitAt) (mY M_Ro_digitAt) ∈ lw_tbl := tb2 _ (List.mem_of_getElem? (i := 203) (by decide +kernel))
theorem kc_Ro_numberAt : mCode M_Ro_numberAt ∈ lw_tbl := tb3 _ (List.mem_of_getElem? (i := 0) rfl)
theorem ki_Ro_numberAt : Cond.initialized (mO M_Ro_numberAt) ∈ lw_tbl := tb1 _ (List.mem_of_getElem? (i := 10) (by decide +kernel))
theorem kn_Ro_numberAt : Cond.instanceMethod (mY M_Ro_numberAt) ∈ lw_tbl := tb2 _ (List.mem_of_getElem? (i := 238) (by decide +kernel))
theorem kv_Ro_numberAt : Cond.selects (mO M_Ro_numberAt) (mY M_Ro_numberAt) (mY M_Ro_numberAt) ∈ lw_tbl := tb2 _ (List.mem_of_getElem? (i := 239) (by decide +kernel))
theorem kc_Ro_hasHeader : mCode M_Ro_hasHeader ∈ lw_tbl := tb2 _ (List.mem_of_getElem? (i := 74) rfl)
theorem ki_Ro_hasHeader : Cond.initialized (mO M_Ro_hasHeader) ∈ lw_tbl := tb1 _ (List.mem_of_getElem? (i := 10) (by decide +kernel))
theorem kn_Ro_hasHeader : Cond.instanceMethod (mY M_Ro_hasHeader) ∈ lw_tbl := tb2 _ (List.mem_of_getElem? (i := 72) (by decide +kernel))
theorem kv_Ro_hasHeader : Cond.selects (mO M_Ro_hasHeader) (mY M_Ro_hasHeader) (mY M_Ro_hasHeader) ∈ lw_tbl := tb2 _ (List.mem_of_getElem? (i := 73) (by decide +kernel))
theorem kc_Ro_firstBit : mCode M_Ro_firstBit ∈ lw_tbl := tb2 _ (List.mem_of_getElem? (i := 70) rfl)
theorem ki_Ro_firstBit : Cond.initialized (mO M_Ro_firstBit) ∈ lw_tbl := tb1 _ (List.mem_of_getElem? (i := 10) (by decide +kernel))
theorem kn_Ro_firstBit : Cond.instanceMethod (mY M_Ro_firstBit) ∈ lw_tbl := tb2 _ (List.mem_of_getElem? (i := 68) (by decide +kernel))
theorem kv_Ro_firstBit : Cond.selects (mO M_Ro_firstBit) (mY M_Ro_firstBit) (mY M_Ro_firstBit) ∈ lw_tbl := tb2 _ (List.mem_of_getElem? (i := 69) (by decide +kernel))
theorem kc_Ro_submitDataAt : mCode M_Ro_submitDataAt ∈ lw_tbl := tb2 _ (List.mem_of_getElem? (i := 62) rfl)
theorem ki_Ro_submitDataAt : Cond.initialized (mO M_Ro_submitDataAt) ∈ lw_tbl := tb1 _ (List.mem_of_getElem? (i := 10) (by decide +kernel))
theorem kn_Ro_submitDataAt : Cond.instanceMethod (mY M_Ro_submitDataAt) ∈ lw_tbl := tb2 _ (List.mem_of_getElem? (i := 60) (by decide +kernel))
theorem kv_Ro_submitDataAt : Cond.selects (mO M_Ro_submitDataAt) (mY M_Ro_submitDataAt) (mY M_Ro_submitDataAt) ∈ lw_tbl := tb2 _ (List.mem_of_getElem? (i := 61) (by decide +kernel))
theorem kc_Ro_deliverDataAt : mCode M_Ro_deliverDataAt ∈ lw_tbl := tb3 _ (List.mem_of_getElem? (i := 121) rfl)
theorem ki_Ro_deliverDataAt : Cond.initialized (mO M_Ro_deliverDataAt) ∈ lw_tbl := tb1 _ (List.mem_of_getElem? (i := 10) (by decide +kernel))
theorem kn_Ro_deliverDataAt : Cond.instanceMethod (mY M_Ro_deliverDataAt) ∈ lw_tbl := tb3 _ (List.mem_of_getElem? (i := 119) (by decide +kernel))
theorem kv_Ro_deliverDataAt : Cond.selects (mO M_Ro_deliverDataAt) (mY M_Ro_deliverDataAt) (mY M_Ro_deliverDataAt) ∈ lw_tbl := tb3 _ (List.mem_of_getElem? (i := 120) (by decide +kernel))
theorem kc_Ro_readText : mCode M_Ro_readText ∈ lw_tbl := tb3 _ (List.mem_of_getElem? (i := 171) rfl)
theorem ki_Ro_readText : Cond.initialized (mO M_Ro_readText) ∈ lw_tbl := tb1 _ (List.mem_of_getElem? (i := 10) (by decide +kernel))
theorem kn_Ro_readText : Cond.instanceMethod (mY M_Ro_readText) ∈ lw_tbl := tb3 _ (List.mem_of_getElem? (i := 169) (by decide +kernel))
theorem kv_Ro_readText : Cond.selects (mO M_Ro_readText) (mY M_Ro_readText) (mY M_Ro_readText) ∈ lw_tbl := tb3 _ (List.mem_of_getElem? (i := 170) (by decide +kernel))
theorem kc_Su_areKept : mCode M_Su_areKept ∈ lw_tbl := tb2 _ (List.mem_of_getElem? (i := 196) rfl)
theorem ki_Su_areKept : Cond.initialized (mO M_Su_areKept) ∈ lw_tbl := tb1 _ (List.mem_of_getElem? (i := 17) (by decide +kernel))
theorem ks_Su_areKept : Cond.static (mY M_Su_areKept) ∈ lw_tbl := tb2 _ (List.mem_of_getElem? (i := 195) (by decide +kernel))
theorem kc_Su_isAddress : mCode M_Su_isAddress ∈ lw_tbl := tb2 _ (List.mem_of_getElem? (i := 200) rfl)
theorem ki_Su_isAddress : Cond.initialized (mO M_Su_isAddress) ∈ lw_tbl := tb1 _ (List.mem_of_getElem? (i := 17) (by decide +kernel))
theorem ks_Su_isAddress : Cond.static (mY M_Su_isAddress) ∈ lw_tbl := tb2 _ (List.mem_of_getElem? (i := 199) (by decide +kernel))
theorem kc_Su_isUserData : mCode M_Su_isUserData ∈ lw_tbl := tb2 _ (List.mem_of_getElem? (i := 208) rfl)
theorem ki_Su_isUserData : Cond.initialized (mO M_Su_isUserData) ∈ lw_tbl := tb1 _ (List.mem_of_getElem? (i := 17) (by decide +kernel))
theorem ks_Su_isUserData : Cond.static (mY M_Su_isUserData) ∈ lw_tbl := tb2 _ (List.mem_of_getElem? (i := 207) (by decide +kernel))
theorem kc_Su_isHeader : mCode M_Su_isHeader ∈ lw_tbl := tb2 _ (List.mem_of_getElem? (i := 217) rfl)
theorem ki_Su_isHeader : Cond.initialized (mO M_Su_isHeader) ∈ lw_tbl := tb1 _ (List.mem_of_getElem? (i := 17) (by decide +kernel))
theorem ks_Su_isHeader : Cond.static (mY M_Su_isHeader) ∈ lw_tbl := tb2 _ (List.mem_of_getElem? (i := 216) (by decide +kernel))
theorem kc_Su_isText : mCode M_Su_isText ∈ lw_tbl := tb2 _ (List.mem_of_getElem? (i := 220) rfl)
theorem ki_Su_isText : Cond.initialized (mO M_Su_isText) ∈ lw_tbl := tb1 _ (List.mem_of_getElem? (i := 17) (by decide +kernel))
theorem ks_Su_isText : Cond.static (mY M_Su_isText) ∈ lw_tbl := tb2 _ (List.mem_of_getElem? (i := 219) (by decide +kernel))
theorem kc_AbC_init : mCode M_AbC_init ∈ lw_tbl := tb1 _ (List.mem_of_getElem? (i := 48) rfl)
theorem ki_AbC_init : Cond.initialized (mO M_AbC_init) ∈ lw_tbl := tb1 _ (List.mem_of_getElem? (i := 3) (by decide +kernel))
theorem kn_AbC_init : Cond.instanceMethod (mY M_AbC_init) ∈ lw_tbl := tb1 _ (List.mem_of_getElem? (i := 47) (by decide +kernel))
theorem kc_AbL_init : mCode M_AbL_init ∈ lw_tbl := tb1 _ (List.mem_of_getElem? (i := 45) rfl)
theorem ki_AbL_init : Cond.initialized (mO M_AbL_init) ∈ lw_tbl := tb1 _ (List.mem_of_getElem? (i := 4) (by decide +kernel))
theorem kn_AbL_init : Cond.instanceMethod (mY M_AbL_init) ∈ lw_tbl := tb1 _ (List.mem_of_getElem? (i := 44) (by decide +kernel))
theorem kc_AL_init : mCode M_AL_init ∈ lw_tbl := tb1 _ (List.mem_of_getElem? (i := 42) rfl)
theorem ki_AL_init : Cond.initialized (mO M_AL_init) ∈ lw_tbl := tb1 _ (List.mem_of_getElem? (i := 5) (by decide +kernel))
theorem kn_AL_init : Cond.instanceMethod (mY M_AL_init) ∈ lw_tbl := tb1 _ (List.mem_of_getElem? (i := 41) (by decide +kernel))
theorem kc_AL_add : mCode M_AL_add ∈ lw_tbl := tb2 _ (List.mem_of_getElem? (i := 86) rfl)
theorem ki_AL_add : Cond.initialized (mO M_AL_add) ∈ lw_tbl := tb1 _ (List.mem_of_getElem? (i := 5) (by decide +kernel))
theorem kn_AL_add : Cond.instanceMethod (mY M_AL_add) ∈ lw_tbl := tb2 _ (List.mem_of_getElem? (i := 84) (by decide +kernel))
theorem kv_AL_add : Cond.selects (mO M_AL_add) (mY M_AL_add) (mY M_AL_add) ∈ lw_tbl := tb2 _ (List.mem_of_getElem? (i := 85) (by decide +kernel))
theorem kc_AL_add1 : mCode M_AL_add1 ∈ lw_tbl := tb2 _ (List.mem_of_getElem? (i := 90) rfl)
theorem ki_AL_add1 : Cond.initialized (mO M_AL_add1) ∈ lw_tbl := tb1 _ (List.mem_of_getElem? (i := 5) (by decide +kernel))
theorem kn_AL_add1 : Cond.instanceMethod (mY M_AL_add1) ∈ lw_tbl := tb2 _ (List.mem_of_getElem? (i := 89) (by decide +kernel))
theorem kv_AL_add1 : Cond.selects (mO M_AL_add1) (mY M_AL_add1) (mY M_AL_add1) ∈ lw_tbl := List.mem_of_getElem? (i := 4) (by decide +kernel)
theorem kc_AL_elementData : mCode M_AL_elementData ∈ lw_tbl := tb2 _ (List.mem_of_getElem? (i := 169) rfl)
theorem ki_AL_elementData : Cond.initialized (mO M_AL_elementData) ∈ lw_tbl := tb1 _ (List.mem_of_getElem? (i := 5) (by decide +kernel))
theorem kn_AL_elementData : Cond.instanceMethod (mY M_AL_elementData) ∈ lw_tbl := tb2 _ (List.mem_of_getElem? (i := 167) (by decide +kernel))
theorem kv_AL_elementData : Cond.selects (mO M_AL_elementData) (mY M_AL_elementData) (mY M_AL_elementData) ∈ lw_tbl := tb2 _ (List.mem_of_getElem? (i := 168) (by decide +kernel))
theorem kc_AL_fastRemove : mCode M_AL_fastRemove ∈ lw_tbl := tb2 _ (List.mem_of_getElem? (i := 192) rfl)
theorem ki_AL_fastRemove : Cond.initialized (mO M_AL_fastRemove) ∈ lw_tbl := tb1 _ (List.mem_of_getElem? (i := 5) (by decide +kernel))
theorem kn_AL_fastRemove : Cond.instanceMethod (mY M_AL_fastRemove) ∈ lw_tbl := tb2 _ (List.mem_of_getElem? (i := 191) (by decide +kernel))
theorem kv_AL_fastRemove : Cond.selects (mO M_AL_fastRemove) (mY M_AL_fastRemove) (mY M_AL_fastRemove) ∈ lw_tbl := List.mem_of_getElem? (i := 7) (by decide +kernel)
theorem kc_AL_get : mCode M_AL_get ∈ lw_tbl := tb2 _ (List.mem_of_getElem? (i := 159) rfl)
theorem ki_AL_get : Cond.initialized (mO M_AL_get) ∈ lw_tbl := tb1 _ (List.mem_of_getElem? (i := 5) (by decide +kernel))
theorem kn_AL_get : Cond.instanceMethod (mY M_AL_get) ∈ lw_tbl := tb2 _ (List.mem_of_getElem? (i := 157) (by decide +kernel))
theorem kv_AL_get : Cond.selects (mO M_AL_get) (mY M_AL_get) (mY M_AL_get) ∈ lw_tbl := tb2 _ (List.mem_of_getElem? (i := 158) (by decide +kernel))
theorem kc_AL_grow : mCode M_AL_grow ∈ lw_tbl := tb2 _ (List.mem_of_getElem? (i := 94) rfl)
theorem ki_AL_grow : Cond.initialized (mO M_AL_grow) ∈ lw_tbl := tb1 _ (List.mem_of_getElem? (i := 5) (by decide +kernel))
theorem kn_AL_grow : Cond.instanceMethod (mY M_AL_grow) ∈ lw_tbl := tb2 _ (List.mem_of_getElem? (i := 93) (by decide +kernel))
theorem kv_AL_grow : Cond.selects (mO M_AL_grow) (mY M_AL_grow) (mY M_AL_grow) ∈ lw_tbl := List.mem_of_getElem? (i := 5) (by decide +kernel)
theorem kc_AL_grow1 : mCode M_AL_grow1 ∈ lw_tbl := tb2 _ (List.mem_of_getElem? (i := 98) rfl)
theorem ki_AL_grow1 : Cond.initialized (mO M_AL_grow1) ∈ lw_tbl := tb1 _ (List.mem_of_getElem? (i := 5) (by decide +kernel))
theorem kn_AL_grow1 : Cond.instanceMethod (mY M_AL_grow1) ∈ lw_tbl := tb2 _ (List.mem_of_getElem? (i := 97) (by decide +kernel))
theorem kv_AL_grow1 : Cond.selects (mO M_AL_grow1) (mY M_AL_grow1) (mY M_AL_grow1) ∈ lw_tbl := List.mem_of_getElem? (i := 6) (by decide +kernel)
theorem kc_AL_isEmpty : mCode M_AL_isEmpty ∈ lw_tbl := tb2 _ (List.mem_of_getElem? (i := 155) rfl)
theorem ki_AL_isEmpty : Cond.initialized (mO M_AL_isEmpty) ∈ lw_tbl := tb1 _ (List.mem_of_getElem? (i := 5) (by decide +kernel))
theorem kn_AL_isEmpty : Cond.instanceMethod (mY M_AL_isEmpty) ∈ lw_tbl := tb2 _ (List.mem_of_getElem? (i := 153) (by decide +kernel))
theorem kv_AL_isEmpty : Cond.selects (mO M_AL_isEmpty) (mY M_AL_isEmpty) (mY M_AL_isEmpty) ∈ lw_tbl := tb2 _ (List.mem_of_getElem? (i := 154) (by decide +kernel))
theorem kc_AL_remove : mCode M_AL_remove ∈ lw_tbl := tb2 _ (List.mem_of_getElem? (i := 188) rfl)
theorem ki_AL_remove : Cond.initialized (mO M_AL_remove) ∈ lw_tbl := tb1 _ (List.mem_of_getElem? (i := 5) (by decide +kernel))
theorem kn_AL_remove : Cond.instanceMethod (mY M_AL_remove) ∈ lw_tbl := tb2 _ (List.mem_of_getElem? (i := 186) (by decide +kernel))
theorem kv_AL_remove : Cond.selects (mO M_AL_remove) (mY M_AL_remove) (mY M_AL_remove) ∈ lw_tbl := tb2 _ (List.mem_of_getElem? (i := 187) (by decide +kernel))
theorem kc_AL_set : mCode M_AL_set ∈ lw_tbl := tb3 _ (List.mem_of_getElem? (i := 195) rfl)
theorem ki_AL_set : Cond.initialized (mO M_AL_set) ∈ lw_tbl := tb1 _ (List.mem_of_getElem? (i := 5) (by decide +kernel))
theorem kn_AL_set : Cond.instanceMethod (mY M_AL_set) ∈ lw_tbl := tb3 _ (List.mem_of_getElem? (i := 193) (by decide +kernel))
theorem kv_AL_set : Cond.selects (mO M_AL_set) (mY M_AL_set) (mY M_AL_set) ∈ lw_tbl := tb3 _ (List.mem_of_getElem? (i := 194) (by decide +kernel))
theorem kc_AL_size : mCode M_AL_size ∈ lw_tbl := tb1 _ (List.mem_of_getElem? (i := 222) rfl)
theorem ki_AL_size : Cond.initialized (mO M_AL_size) ∈ lw_tbl := tb1 _ (List.mem_of_getElem? (i := 5) (by decide +kernel))
theorem kn_AL_size : Cond.instanceMethod (mY M_AL_size) ∈ lw_tbl := tb1 _ (List.mem_of_getElem? (i := 220) (by decide +kernel))
theorem kv_AL_size : Cond.selects (mO M_AL_size) (mY M_AL_size) (mY M_AL_size) ∈ lw_tbl := tb1 _ (List.mem_of_getElem? (i := 221) (by decide +kernel))
theorem kc_Ar_copyOf : mCode M_Ar_copyOf ∈ lw_tbl := tb2 _ (List.mem_of_getElem? (i := 111) rfl)
theorem ki_Ar_copyOf : Cond.initialized (mO M_Ar_copyOf) ∈ lw_tbl := tb1 _ (List.mem_of_getElem? (i := 13) (by decide +kernel))
theorem ks_Ar_copyOf : Cond.static (mY M_Ar_copyOf) ∈ lw_tbl := tb2 _ (List.mem_of_getElem? (i := 110) (by decide +kernel))
theorem kc_Ar_copyOf1 : mCode M_Ar_copyOf1 ∈ lw_tbl := tb2 _ (List.mem_of_getElem? (i := 128) rfl)
theorem ki_Ar_copyOf1 : Cond.initialized (mO M_Ar_copyOf1) ∈ lw_tbl := tb1 _ (List.mem_of_getElem? (i := 13) (by decide +kernel))
theorem ks_Ar_copyOf1 : Cond.static (mY M_Ar_copyOf1) ∈ lw_tbl := tb2 _ (List.mem_of_getElem? (i := 127) (by decide +kernel))
theorem kc_Ob_checkIndex : mCode M_Ob_checkIndex ∈ lw_tbl := tb2 _ (List.mem_of_getElem? (i := 162) rfl)
theorem ki_Ob_checkIndex : Cond.initialized (mO M_Ob_checkIndex) ∈ lw_tbl := tb1 _ (List.mem_of_getElem? (i := 15) (by decide +kernel))
theorem ks_Ob_checkIndex : Cond.static (mY M_Ob_checkIndex) ∈ lw_tbl := tb2 _ (List.mem_of_getElem? (i := 161) (by decide +kernel))
theorem kc_AS_hugeLength : mCode M_AS_hugeLength ∈ lw_tbl := tb2 _ (List.mem_of_getElem? (i := 108) rfl)
theorem ki_AS_hugeLength : Cond.initialized (mO M_AS_hugeLength) ∈ lw_tbl := tb1 _ (List.mem_of_getElem? (i := 11) (by decide +kernel))
theorem ks_AS_hugeLength : Cond.static (mY M_AS_hugeLength) ∈ lw_tbl := tb2 _ (List.mem_of_getElem? (i := 107) (by decide +kernel))
theorem kc_AS_newLength : mCode M_AS_newLength ∈ lw_tbl := tb2 _ (List.mem_of_getElem? (i := 101) rfl)
theorem ki_AS_newLength : Cond.initialized (mO M_AS_newLength) ∈ lw_tbl := tb1 _ (List.mem_of_getElem? (i := 11) (by decide +kernel))
theorem ks_AS_newLength : Cond.static (mY M_AS_newLength) ∈ lw_tbl := tb2 _ (List.mem_of_getElem? (i := 100) (by decide +kernel))
theorem kc_Pre_checkIndex : mCode M_Pre_checkIndex ∈ lw_tbl := tb2 _ (List.mem_of_getElem? (i := 165) rfl)
theorem ki_Pre_checkIndex : Cond.initialized (mO M_Pre_checkIndex) ∈ lw_tbl := tb1 _ (List.mem_of_getElem? (i := 16) (by decide +kernel))
theorem ks_Pre_checkIndex : Cond.static (mY M_Pre_checkIndex) ∈ lw_tbl := tb2 _ (List.mem_of_getElem? (i := 164) (by decide +kernel))
theorem v_LW_9 : ICi "SeptetCentreLaw" 9 M_SC_init 0 := ⟨⟨Or.inl (tb1 _ (List.mem_of_getElem? (i := 24) (by decide +kernel))), kc_SC_init, ki_SC_init, by decide +kernel, by decide +kernel⟩, kn_SC_init, rfl, rfl, by unfold nPar; decide +kernel⟩
theorem v_SC_17 : ICi "SeptetCentre" 17 M_Li_init 1 := ⟨⟨Or.inl (tb1 _ (List.mem_of_getElem? (i := 34) (by decide +kernel))), kc_Li_init, ki_Li_init, by decide +kernel, by decide +kernel⟩, kn_Li_init, rfl, rfl, by unfold nPar; decide +kernel⟩
theorem v_Li_9 : ICi "SeptetCentre$Line" 9 M_AL_init 0 := ⟨⟨Or.inl (tb1 _ (List.mem_of_getElem? (i := 40) (by decide +kernel))), kc_AL_init, ki_AL_init, by decide +kernel, by decide +kernel⟩, kn_AL_init, rfl, rfl, by unfold nPar; decide +kernel⟩
theorem v_AL_1 : ICi "java/util/ArrayList" 1 M_AbL_init 0 := ⟨⟨Or.inl (tb1 _ (List.mem_of_getElem? (i := 43) (by decide +kernel))), kc_AbL_init, ki_AbL_init, by decide +kernel, by decide +kernel⟩, kn_AbL_init, rfl, rfl, by unfold nPar; decide +kernel⟩
theorem v_AbL_1 : ICi "java/util/AbstractList" 1 M_AbC_init 0 := ⟨⟨Or.inl (tb1 _ (List.mem_of_getElem? (i := 46) (by decide +kernel))), kc_AbC_init, ki_AbC_init, by decide +kernel, by decide +kernel⟩, kn_AbC_init, rfl, rfl, by unfold nPar; decide +kernel⟩
theorem v_SC_33 : ICi "SeptetCentre" 33 M_AL_init 0 := ⟨⟨Or.inl (tb1 _ (List.mem_of_getElem? (i := 87) (by decide +kernel))), kc_AL_init, ki_AL_init, by decide +kernel, by decide +kernel⟩, kn_AL_init, rfl, rfl, by unfold nPar; decide +kernel⟩
theorem v_De_11 : ICi "SeptetCentre$Device" 11 M_Li_init 1 := ⟨⟨Or.inl (tb1 _ (List.mem_of_getElem? (i := 94) (by decide +kernel))), kc_Li_init, ki_Li_init, by decide +kernel, by decide +kernel⟩, kn_Li_init, rfl, rfl, by unfold nPar; decide +kernel⟩
theorem v_De_23 : ICi "SeptetCentre$Device" 23 M_AL_init 0 := ⟨⟨Or.inl (tb1 _ (List.mem_of_getElem? (i := 96) (by decide +kernel))), kc_AL_init, ki_AL_init, by decide +kernel, by decide +kernel⟩, kn_AL_init, rfl, rfl, by unfold nPar; decide +kernel⟩
theorem v_LW_15 : VC "SeptetCentreLaw" 15 M_SC_register 0 2 := ⟨⟨Or.inl (tb1 _ (List.mem_of_getElem? (i := 155) (by decide +kernel))), kc_SC_register, ki_SC_register, by decide +kernel, by decide +kernel⟩, kn_SC_register, kv_SC_register, ⟨_, _, rfl⟩, by unfold nPar; decide +kernel⟩
theorem v_SC_42 : VC "SeptetCentre" 42 M_SC_deviceOf 0 1 := ⟨⟨Or.inl (tb1 _ (List.mem_of_getElem? (i := 159) (by decide +kernel))), kc_SC_deviceOf, ki_SC_deviceOf, by decide +kernel, by decide +kernel⟩, kn_SC_deviceOf, kv_SC_deviceOf, ⟨_, _, rfl⟩, by unfold nPar; decide +kernel⟩
theorem v_SC_46 : SCs "SeptetCentre" 46 M_SC_isNumber 1 := ⟨⟨Or.inl (tb1 _ (List.mem_of_getElem? (i := 163) (by decide +kernel))), kc_SC_isNumber, ki_SC_isNumber, by decide +kernel, by decide +kernel⟩, ks_SC_isNumber, by unfold nPar; decide +kernel⟩
theorem v_LW_20 : VC "SeptetCentreLaw" 20 M_SC_power 0 2 := ⟨⟨Or.inl (tb1 _ (List.mem_of_getElem? (i := 167) (by decide +kernel))), kc_SC_power, ki_SC_power, by decide +kernel, by decide +kernel⟩, kn_SC_power, kv_SC_power, ⟨_, _, rfl⟩, by unfold nPar; decide +kernel⟩
theorem v_LW_25 : VC "SeptetCentreLaw" 25 M_SC_type 0 2 := ⟨⟨Or.inl (tb1 _ (List.mem_of_getElem? (i := 171) (by decide +kernel))), kc_SC_type, ki_SC_type, by decide +kernel, by decide +kernel⟩, kn_SC_type, kv_SC_type, ⟨_, _, rfl⟩, by unfold nPar; decide +kernel⟩
theorem v_SC_58 : VC "SeptetCentre" 58 M_Dr_room 3 0 := ⟨⟨Or.inl (tb1 _ (List.mem_of_getElem? (i := 175) (by decide +kernel))), kc_Dr_room, ki_Dr_room, by decide +kernel, by decide +kernel⟩, kn_Dr_room, kv_Dr_room, ⟨_, _, rfl⟩, by unfold nPar; decide +kernel⟩
theorem v_SC_62 : SCs "SeptetCentre" 62 M_Al_formOf 1 := ⟨⟨Or.inl (tb1 _ (List.mem_of_getElem? (i := 179) (by decide +kernel))), kc_Al_formOf, ki_Al_formOf, by decide +kernel, by decide +kernel⟩, ks_Al_formOf, by unfold nPar; decide +kernel⟩
theorem v_SC_68 : VC "SeptetCentre" 68 M_Dr_append 3 2 := ⟨⟨Or.inl (tb1 _ (List.mem_of_getElem? (i := 188) (by decide +kernel))), kc_Dr_append, ki_Dr_append, by decide +kernel, by decide +kernel⟩, kn_Dr_append, kv_Dr_append, ⟨_, _, rfl⟩, by unfold nPar; decide +kernel⟩
theorem v_LW_30 : VC "SeptetCentreLaw" 30 M_SC_wipe 0 0 := ⟨⟨Or.inl (tb1 _ (List.mem_of_getElem? (i := 192) (by decide +kernel))), kc_SC_wipe, ki_SC_wipe, by decide +kernel, by decide +kernel⟩, kn_SC_wipe, kv_SC_wipe, ⟨_, _, rfl⟩, by unfold nPar; decide +kernel⟩
theorem v_LW_34 : VC "SeptetCentreLaw" 34 M_SC_send 0 4 := ⟨⟨Or.inl (tb1 _ (List.mem_of_getElem? (i := 196) (by decide +kernel))), kc_SC_send, ki_SC_send, by decide +kernel, by decide +kernel⟩, kn_SC_send, kv_SC_send, ⟨_, _, rfl⟩, by unfold nPar; decide +kernel⟩
theorem v_SC_76 : VC "SeptetCentre" 76 M_Dr_hasAlien 3 0 := ⟨⟨Or.inl (tb1 _ (List.mem_of_getElem? (i := 200) (by decide +kernel))), kc_Dr_hasAlien, ki_Dr_hasAlien, by decide +kernel, by decide +kernel⟩, kn_Dr_hasAlien, kv_Dr_hasAlien, ⟨_, _, rfl⟩, by unfold nPar; decide +kernel⟩
theorem v_SC_80 : VC "SeptetCentre" 80 M_Dr_partCount 3 0 := ⟨⟨Or.inl (tb1 _ (List.mem_of_getElem? (i := 204) (by decide +kernel))), kc_Dr_partCount, ki_Dr_partCount, by decide +kernel, by decide +kernel⟩, kn_Dr_partCount, kv_Dr_partCount, ⟨_, _, rfl⟩, by unfold nPar; decide +kernel⟩
theorem v_Dr_23 : VC "SeptetCentre$Draft" 23 M_Dr_septets 3 2 := ⟨⟨Or.inl (tb1 _ (List.mem_of_getElem? (i := 208) (by decide +kernel))), kc_Dr_septets, ki_Dr_septets, by decide +kernel, by decide +kernel⟩, kn_Dr_septets, kv_Dr_septets, ⟨_, _, rfl⟩, by unfold nPar; decide +kernel⟩
theorem v_Dr_19 : SCs "SeptetCentre$Draft" 19 M_Al_septetsOf 1 := ⟨⟨Or.inl (tb1 _ (List.mem_of_getElem? (i := 212) (by decide +kernel))), kc_Al_septetsOf, ki_Al_septetsOf, by decide +kernel, by decide +kernel⟩, ks_Al_septetsOf, by unfold nPar; decide +kernel⟩
theorem v_SC_83 : VC "SeptetCentre" 83 M_Li_room 1 0 := ⟨⟨Or.inl (tb1 _ (List.mem_of_getElem? (i := 215) (by decide +kernel))), kc_Li_room, ki_Li_room, by decide +kernel, by decide +kernel⟩, kn_Li_room, kv_Li_room, ⟨_, _, rfl⟩, by unfold nPar; decide +kernel⟩
theorem v_Li_20 : VC "SeptetCentre$Line" 20 M_AL_size 2 0 := ⟨⟨Or.inl (tb1 _ (List.mem_of_getElem? (i := 219) (by decide +kernel))), kc_AL_size, ki_AL_size, by decide +kernel, by decide +kernel⟩, kn_AL_size, kv_AL_size, ⟨_, _, rfl⟩, by unfold nPar; decide +kernel⟩
theorem v_SC_86 : VC "SeptetCentre" 86 M_SC_sendUp 0 5 := ⟨⟨Or.inl (tb1 _ (List.mem_of_getElem? (i := 223) (by decide +kernel))), kc_SC_sendUp, ki_SC_sendUp, by decide +kernel, by decide +kernel⟩, kn_SC_sendUp, kv_SC_sendUp, ⟨_, _, rfl⟩, by unfold nPar; decide +kernel⟩
theorem v_SC_204 : VC "SeptetCentre" 204 M_Dr_partEnd 3 1 := ⟨⟨Or.inl (tb1 _ (List.mem_of_getElem? (i := 227) (by decide +kernel))), kc_Dr_partEnd, ki_Dr_partEnd, by decide +kernel, by decide +kernel⟩, kn_Dr_partEnd, kv_Dr_partEnd, ⟨_, _, rfl⟩, by unfold nPar; decide +kernel⟩
theorem v_SC_207 : VC "SeptetCentre" 207 M_Dr_septets 3 2 := ⟨⟨Or.inl (tb1 _ (List.mem_of_getElem? (i := 231) (by decide +kernel))), kc_Dr_septets, ki_Dr_septets, by decide +kernel, by decide +kernel⟩, kn_Dr_septets, kv_Dr_septets, ⟨_, _, rfl⟩, by unfold nPar; decide +kernel⟩
theorem v_SC_211 : SCs "SeptetCentre" 211 M_Ro_submitSize 2 := ⟨⟨Or.inl (tb1 _ (List.mem_of_getElem? (i := 234) (by decide +kernel))), kc_Ro_submitSize, ki_Ro_submitSize, by decide +kernel, by decide +kernel⟩, ks_Ro_submitSize, by unfold nPar; decide +kernel⟩
theorem v_Ro_19 : SCs "SeptetCentre$Row" 19 M_Ro_digitsOf 1 := ⟨⟨Or.inl (tb1 _ (List.mem_of_getElem? (i := 237) (by decide +kernel))), kc_Ro_digitsOf, ki_Ro_digitsOf, by decide +kernel, by decide +kernel⟩, ks_Ro_digitsOf, by unfold nPar; decide +kernel⟩
theorem v_Ro_23 : SCs "SeptetCentre$Row" 23 M_Ro_addressSize 1 := ⟨⟨Or.inl (tb2 _ (List.mem_of_getElem? (i := 1) (by decide +kernel))), kc_Ro_addressSize, ki_Ro_addressSize, by decide +kernel, by decide +kernel⟩, ks_Ro_addressSize, by unfold nPar; decide +kernel⟩
theorem v_Ro_27 : SCs "SeptetCentre$Row" 27 M_Ro_dataSize 1 := ⟨⟨Or.inl (tb2 _ (List.mem_of_getElem? (i := 4) (by decide +kernel))), kc_Ro_dataSize, ki_Ro_dataSize, by decide +kernel, by decide +kernel⟩, ks_Ro_dataSize, by unfold nPar; decide +kernel⟩
theorem v_SC_215 : ICi "SeptetCentre" 215 M_Ro_init 2 := ⟨⟨Or.inl (tb2 _ (List.mem_of_getElem? (i := 7) (by decide +kernel))), kc_Ro_init, ki_Ro_init, by decide +kernel, by decide +kernel⟩, kn_Ro_init, rfl, rfl, by unfold nPar; decide +kernel⟩
theorem v_SC_218 : VC "SeptetCentre" 218 M_De_nextMessageNumber 4 0 := ⟨⟨Or.inl (tb2 _ (List.mem_of_getElem? (i := 22) (by decide +kernel))), kc_De_nextMessageNumber, ki_De_nextMessageNumber, by decide +kernel, by decide +kernel⟩, kn_De_nextMessageNumber, kv_De_nextMessageNumber, ⟨_, _, rfl⟩, by unfold nPar; decide +kernel⟩
theorem v_SC_221 : VC "SeptetCentre" 221 M_Ro_putSubmitHead 5 4 := ⟨⟨Or.inl (tb2 _ (List.mem_of_getElem? (i := 26) (by decide +kernel))), kc_Ro_putSubmitHead, ki_Ro_putSubmitHead, by decide +kernel, by decide +kernel⟩, kn_Ro_putSubmitHead, kv_Ro_putSubmitHead, ⟨_, _, rfl⟩, by unfold nPar; decide +kernel⟩
theorem v_Ro_38 : VC "SeptetCentre$Row" 38 M_Ro_put 5 1 := ⟨⟨Or.inl (tb2 _ (List.mem_of_getElem? (i := 30) (by decide +kernel))), kc_Ro_put, ki_Ro_put, by decide +kernel, by decide +kernel⟩, kn_Ro_put, kv_Ro_put, ⟨_, _, rfl⟩, by unfold nPar; decide +kernel⟩
theorem v_Ro_30 : VC "SeptetCentre$Row" 30 M_Ro_has 5 1 := ⟨⟨Or.inl (tb2 _ (List.mem_of_getElem? (i := 34) (by decide +kernel))), kc_Ro_has, ki_Ro_has, by decide +kernel, by decide +kernel⟩, kn_Ro_has, kv_Ro_has, ⟨_, _, rfl⟩, by unfold nPar; decide +kernel⟩
theorem v_Ro_50 : VC "SeptetCentre$Row" 50 M_Ro_putAddress 5 1 := ⟨⟨Or.inl (tb2 _ (List.mem_of_getElem? (i := 38) (by decide +kernel))), kc_Ro_putAddress, ki_Ro_putAddress, by decide +kernel, by decide +kernel⟩, kn_Ro_putAddress, kv_Ro_putAddress, ⟨_, _, rfl⟩, by unfold nPar; decide +kernel⟩
theorem v_Ro_46 : VC "SeptetCentre$Row" 46 M_Ro_putDigits 5 2 := ⟨⟨Or.inl (tb2 _ (List.mem_of_getElem? (i := 42) (by decide +kernel))), kc_Ro_putDigits, ki_Ro_putDigits, by decide +kernel, by decide +kernel⟩, kn_Ro_putDigits, kv_Ro_putDigits, ⟨_, _, rfl⟩, by unfold nPar; decide +kernel⟩
theorem v_Ro_42 : VC "SeptetCentre$Row" 42 M_Ro_merge 5 2 := ⟨⟨Or.inl (tb2 _ (List.mem_of_getElem? (i := 46) (by decide +kernel))), kc_Ro_merge, ki_Ro_merge, by decide +kernel, by decide +kernel⟩, kn_Ro_merge, kv_Ro_merge, ⟨_, _, rfl⟩, by unfold nPar; decide +kernel⟩
theorem v_SC_225 : VC "SeptetCentre" 225 M_Ro_put 5 1 := ⟨⟨Or.inl (tb2 _ (List.mem_of_getElem? (i := 50) (by decide +kernel))), kc_Ro_put, ki_Ro_put, by decide +kernel, by decide +kernel⟩, kn_Ro_put, kv_Ro_put, ⟨_, _, rfl⟩, by unfold nPar; decide +kernel⟩
theorem v_SC_231 : VC "SeptetCentre" 231 M_Ro_putHeader 5 3 := ⟨⟨Or.inl (tb2 _ (List.mem_of_getElem? (i := 51) (by decide +kernel))), kc_Ro_putHeader, ki_Ro_putHeader, by decide +kernel, by decide +kernel⟩, kn_Ro_putHeader, kv_Ro_putHeader, ⟨_, _, rfl⟩, by unfold nPar; decide +kernel⟩
theorem v_SC_235 : VC "SeptetCentre" 235 M_Dr_pack 3 3 := ⟨⟨Or.inl (tb2 _ (List.mem_of_getElem? (i := 55) (by decide +kernel))), kc_Dr_pack, ki_Dr_pack, by decide +kernel, by decide +kernel⟩, kn_Dr_pack, kv_Dr_pack, ⟨_, _, rfl⟩, by unfold nPar; decide +kernel⟩
theorem v_Dr_27 : VC "SeptetCentre$Draft" 27 M_Ro_submitDataAt 5 0 := ⟨⟨Or.inl (tb2 _ (List.mem_of_getElem? (i := 59) (by decide +kernel))), kc_Ro_submitDataAt, ki_Ro_submitDataAt, by decide +kernel, by decide +kernel⟩, kn_Ro_submitDataAt, kv_Ro_submitDataAt, ⟨_, _, rfl⟩, by unfold nPar; decide +kernel⟩
theorem v_Ro_58 : VC "SeptetCentre$Row" 58 M_Ro_at 5 1 := ⟨⟨Or.inl (tb2 _ (List.mem_of_getElem? (i := 63) (by decide +kernel))), kc_Ro_at, ki_Ro_at, by decide +kernel, by decide +kernel⟩, kn_Ro_at, kv_Ro_at, ⟨_, _, rfl⟩, by unfold nPar; decide +kernel⟩
theorem v_Dr_33 : VC "SeptetCentre$Draft" 33 M_Ro_firstBit 5 0 := ⟨⟨Or.inl (tb2 _ (List.mem_of_getElem? (i := 67) (by decide +kernel))), kc_Ro_firstBit, ki_Ro_firstBit, by decide +kernel, by decide +kernel⟩, kn_Ro_firstBit, kv_Ro_firstBit, ⟨_, _, rfl⟩, by unfold nPar; decide +kernel⟩
theorem v_Ro_65 : VC "SeptetCentre$Row" 65 M_Ro_hasHeader 5 0 := ⟨⟨Or.inl (tb2 _ (List.mem_of_getElem? (i := 71) (by decide +kernel))), kc_Ro_hasHeader, ki_Ro_hasHeader, by decide +kernel, by decide +kernel⟩, kn_Ro_hasHeader, kv_Ro_hasHeader, ⟨_, _, rfl⟩, by unfold nPar; decide +kernel⟩
theorem v_Dr_36 : VC "SeptetCentre$Draft" 36 M_Ro_mergeSeptet 5 3 := ⟨⟨Or.inl (tb2 _ (List.mem_of_getElem? (i := 75) (by decide +kernel))), kc_Ro_mergeSeptet, ki_Ro_mergeSeptet, by decide +kernel, by decide +kernel⟩, kn_Ro_mergeSeptet, kv_Ro_mergeSeptet, ⟨_, _, rfl⟩, by unfold nPar; decide +kernel⟩
theorem v_SC_167 : VC "SeptetCentre" 167 M_Li_append 1 1 := ⟨⟨Or.inl (tb2 _ (List.mem_of_getElem? (i := 79) (by decide +kernel))), kc_Li_append, ki_Li_append, by decide +kernel, by decide +kernel⟩, kn_Li_append, kv_Li_append, ⟨_, _, rfl⟩, by unfold nPar; decide +kernel⟩
theorem v_Li_24 : VC "SeptetCentre$Line" 24 M_AL_add 2 1 := ⟨⟨Or.inl (tb2 _ (List.mem_of_getElem? (i := 83) (by decide +kernel))), kc_AL_add, ki_AL_add, by decide +kernel, by decide +kernel⟩, kn_AL_add, kv_AL_add, ⟨_, _, rfl⟩, by unfold nPar; decide +kernel⟩
theorem v_AL_131 : VC "java/util/ArrayList" 131 M_AL_add1 2 3 := ⟨⟨Or.inl (tb2 _ (List.mem_of_getElem? (i := 87) (by decide +kernel))), kc_AL_add1, ki_AL_add1, by decide +kernel, by decide +kernel⟩, kn_AL_add1, kv_AL_add1, ⟨_, _, rfl⟩, by unfold nPar; decide +kernel⟩
theorem v_AL_129 : VC "java/util/ArrayList" 129 M_AL_grow 2 0 := ⟨⟨Or.inl (tb2 _ (List.mem_of_getElem? (i := 91) (by decide +kernel))), kc_AL_grow, ki_AL_grow, by decide +kernel, by decide +kernel⟩, kn_AL_grow, kv_AL_grow, ⟨_, _, rfl⟩, by unfold nPar; decide +kernel⟩
theorem v_AL_69 : VC "java/util/ArrayList" 69 M_AL_grow1 2 1 := ⟨⟨Or.inl (tb2 _ (List.mem_of_getElem? (i := 95) (by decide +kernel))), kc_AL_grow1, ki_AL_grow1, by decide +kernel, by decide +kernel⟩, kn_AL_grow1, kv_AL_grow1, ⟨_, _, rfl⟩, by unfold nPar; decide +kernel⟩
theorem v_AL_73 : SCs "java/util/ArrayList" 73 M_AS_newLength 3 := ⟨⟨Or.inl (tb2 _ (List.mem_of_getElem? (i := 99) (by decide +kernel))), kc_AS_newLength, ki_AS_newLength, by decide +kernel, by decide +kernel⟩, ks_AS_newLength, by unfold nPar; decide +kernel⟩
theorem v_AS_201 : SCs "jdk/internal/util/ArraysSupport" 201 M_AS_hugeLength 2 := ⟨⟨Or.inl (tb2 _ (List.mem_of_getElem? (i := 106) (by decide +kernel))), kc_AS_hugeLength, ki_AS_hugeLength, by decide +kernel, by decide +kernel⟩, ks_AS_hugeLength, by unfold nPar; decide +kernel⟩
theorem v_AL_66 : SCs "java/util/ArrayList" 66 M_Ar_copyOf 2 := ⟨⟨Or.inl (tb2 _ (List.mem_of_getElem? (i := 109) (by decide +kernel))), kc_Ar_copyOf, ki_Ar_copyOf, by decide +kernel, by decide +kernel⟩, ks_Ar_copyOf, by unfold nPar; decide +kernel⟩
theorem v_Ar_300 : SCs "java/util/Arrays" 300 M_Ar_copyOf1 3 := ⟨⟨Or.inl (tb2 _ (List.mem_of_getElem? (i := 126) (by decide +kernel))), kc_Ar_copyOf1, ki_Ar_copyOf1, by decide +kernel, by decide +kernel⟩, ks_Ar_copyOf1, by unfold nPar; decide +kernel⟩
theorem v_SC_239 : VC "SeptetCentre" 239 M_De_countReference 4 0 := ⟨⟨Or.inl (tb2 _ (List.mem_of_getElem? (i := 140) (by decide +kernel))), kc_De_countReference, ki_De_countReference, by decide +kernel, by decide +kernel⟩, kn_De_countReference, kv_De_countReference, ⟨_, _, rfl⟩, by unfold nPar; decide +kernel⟩
theorem v_LW_39 : VC "SeptetCentreLaw" 39 M_SC_alter 0 2 := ⟨⟨Or.inl (tb2 _ (List.mem_of_getElem? (i := 144) (by decide +kernel))), kc_SC_alter, ki_SC_alter, by decide +kernel, by decide +kernel⟩, kn_SC_alter, kv_SC_alter, ⟨_, _, rfl⟩, by unfold nPar; decide +kernel⟩
theorem v_SC_90 : VC "SeptetCentre" 90 M_Li_first 1 0 := ⟨⟨Or.inl (tb2 _ (List.mem_of_getElem? (i := 148) (by decide +kernel))), kc_Li_first, ki_Li_first, by decide +kernel, by decide +kernel⟩, kn_Li_first, kv_Li_first, ⟨_, _, rfl⟩, by unfold nPar; decide +kernel⟩
theorem v_Li_28 : VC "SeptetCentre$Line" 28 M_AL_isEmpty 2 0 := ⟨⟨Or.inl (tb2 _ (List.mem_of_getElem? (i := 152) (by decide +kernel))), kc_AL_isEmpty, ki_AL_isEmpty, by decide +kernel, by decide +kernel⟩, kn_AL_isEmpty, kv_AL_isEmpty, ⟨_, _, rfl⟩, by unfold nPar; decide +kernel⟩
theorem v_Li_32 : VC "SeptetCentre$Line" 32 M_AL_get 2 1 := ⟨⟨Or.inl (tb2 _ (List.mem_of_getElem? (i := 156) (by decide +kernel))), kc_AL_get, ki_AL_get, by decide +kernel, by decide +kernel⟩, kn_AL_get, kv_AL_get, ⟨_, _, rfl⟩, by unfold nPar; decide +kernel⟩
theorem v_AL_118 : SCs "java/util/ArrayList" 118 M_Ob_checkIndex 2 := ⟨⟨Or.inl (tb2 _ (List.mem_of_getElem? (i := 160) (by decide +kernel))), kc_Ob_checkIndex, ki_Ob_checkIndex, by decide +kernel, by decide +kernel⟩, ks_Ob_checkIndex, by unfold nPar; decide +kernel⟩
theorem v_Ob_105 : SCs "java/util/Objects" 105 M_Pre_checkIndex 3 := ⟨⟨Or.inl (tb2 _ (List.mem_of_getElem? (i := 163) (by decide +kernel))), kc_Pre_checkIndex, ki_Pre_checkIndex, by decide +kernel, by decide +kernel⟩, ks_Pre_checkIndex, by unfold nPar; decide +kernel⟩
theorem v_AL_123 : VC "java/util/ArrayList" 123 M_AL_elementData 2 1 := ⟨⟨Or.inl (tb2 _ (List.mem_of_getElem? (i := 166) (by decide +kernel))), kc_AL_elementData, ki_AL_elementData, by decide +kernel, by decide +kernel⟩, kn_AL_elementData, kv_AL_elementData, ⟨_, _, rfl⟩, by unfold nPar; decide +kernel⟩
theorem v_SC_94 : VC "SeptetCentre" 94 M_Ro_has 5 1 := ⟨⟨Or.inl (tb2 _ (List.mem_of_getElem? (i := 171) (by decide +kernel))), kc_Ro_has, ki_Ro_has, by decide +kernel, by decide +kernel⟩, kn_Ro_has, kv_Ro_has, ⟨_, _, rfl⟩, by unfold nPar; decide +kernel⟩
theorem v_SC_98 : VC "SeptetCentre" 98 M_Ro_flip 5 2 := ⟨⟨Or.inl (tb2 _ (List.mem_of_getElem? (i := 172) (by decide +kernel))), kc_Ro_flip, ki_Ro_flip, by decide +kernel, by decide +kernel⟩, kn_Ro_flip, kv_Ro_flip, ⟨_, _, rfl⟩, by unfold nPar; decide +kernel⟩
theorem v_LW_44 : VC "SeptetCentreLaw" 44 M_SC_receive 0 0 := ⟨⟨Or.inl (tb2 _ (List.mem_of_getElem? (i := 176) (by decide +kernel))), kc_SC_receive, ki_SC_receive, by decide +kernel, by decide +kernel⟩, kn_SC_receive, kv_SC_receive, ⟨_, _, rfl⟩, by unfold nPar; decide +kernel⟩
theorem v_SC_101 : VC "SeptetCentre" 101 M_AL_size 2 0 := ⟨⟨Or.inl (tb2 _ (List.mem_of_getElem? (i := 180) (by decide +kernel))), kc_AL_size, ki_AL_size, by decide +kernel, by decide +kernel⟩, kn_AL_size, kv_AL_size, ⟨_, _, rfl⟩, by unfold nPar; decide +kernel⟩
theorem v_SC_104 : VC "SeptetCentre" 104 M_Li_removeFirst 1 0 := ⟨⟨Or.inl (tb2 _ (List.mem_of_getElem? (i := 181) (by decide +kernel))), kc_Li_removeFirst, ki_Li_removeFirst, by decide +kernel, by decide +kernel⟩, kn_Li_removeFirst, kv_Li_removeFirst, ⟨_, _, rfl⟩, by unfold nPar; decide +kernel⟩
theorem v_Li_38 : VC "SeptetCentre$Line" 38 M_AL_remove 2 1 := ⟨⟨Or.inl (tb2 _ (List.mem_of_getElem? (i := 185) (by decide +kernel))), kc_AL_remove, ki_AL_remove, by decide +kernel, by decide +kernel⟩, kn_AL_remove, kv_AL_remove, ⟨_, _, rfl⟩, by unfold nPar; decide +kernel⟩
theorem v_AL_144 : VC "java/util/ArrayList" 144 M_AL_fastRemove 2 2 := ⟨⟨Or.inl (tb2 _ (List.mem_of_getElem? (i := 189) (by decide +kernel))), kc_AL_fastRemove, ki_AL_fastRemove, by decide +kernel, by decide +kernel⟩, kn_AL_fastRemove, kv_AL_fastRemove, ⟨_, _, rfl⟩, by unfold nPar; decide +kernel⟩
theorem v_SC_111 : SCs "SeptetCentre" 111 M_Su_areKept 1 := ⟨⟨Or.inl (tb2 _ (List.mem_of_getElem? (i := 194) (by decide +kernel))), kc_Su_areKept, ki_Su_areKept, by decide +kernel, by decide +kernel⟩, ks_Su_areKept, by unfold nPar; decide +kernel⟩
theorem v_Su_9 : VC "SeptetCentre$SubmitRules" 9 M_Ro_at 5 1 := ⟨⟨Or.inl (tb2 _ (List.mem_of_getElem? (i := 197) (by decide +kernel))), kc_Ro_at, ki_Ro_at, by decide +kernel, by decide +kernel⟩, kn_Ro_at, kv_Ro_at, ⟨_, _, rfl⟩, by unfold nPar; decide +kernel⟩
theorem v_Su_15 : SCs "SeptetCentre$SubmitRules" 15 M_Su_isAddress 2 := ⟨⟨Or.inl (tb2 _ (List.mem_of_getElem? (i := 198) (by decide +kernel))), kc_Su_isAddress, ki_Su_isAddress, by decide +kernel, by decide +kernel⟩, ks_Su_isAddress, by unfold nPar; decide +kernel⟩
theorem v_Su_28 : VC "SeptetCentre$SubmitRules" 28 M_Ro_digitAt 5 2 := ⟨⟨Or.inl (tb2 _ (List.mem_of_getElem? (i := 201) (by decide +kernel))), kc_Ro_digitAt, ki_Ro_digitAt, by decide +kernel, by decide +kernel⟩, kn_Ro_digitAt, kv_Ro_digitAt, ⟨_, _, rfl⟩, by unfold nPar; decide +kernel⟩
theorem v_Su_21 : VC "SeptetCentre$SubmitRules" 21 M_Ro_submitDataAt 5 0 := ⟨⟨Or.inl (tb2 _ (List.mem_of_getElem? (i := 205) (by decide +kernel))), kc_Ro_submitDataAt, ki_Ro_submitDataAt, by decide +kernel, by decide +kernel⟩, kn_Ro_submitDataAt, kv_Ro_submitDataAt, ⟨_, _, rfl⟩, by unfold nPar; decide +kernel⟩
theorem v_Su_25 : SCs "SeptetCentre$SubmitRules" 25 M_Su_isUserData 2 := ⟨⟨Or.inl (tb2 _ (List.mem_of_getElem? (i := 206) (by decide +kernel))), kc_Su_isUserData, ki_Su_isUserData, by decide +kernel, by decide +kernel⟩, ks_Su_isUserData, by unfold nPar; decide +kernel⟩
theorem v_Su_32 : VC "SeptetCentre$SubmitRules" 32 M_Ro_size 5 0 := ⟨⟨Or.inl (tb2 _ (List.mem_of_getElem? (i := 209) (by decide +kernel))), kc_Ro_size, ki_Ro_size, by decide +kernel, by decide +kernel⟩, kn_Ro_size, kv_Ro_size, ⟨_, _, rfl⟩, by unfold nPar; decide +kernel⟩
theorem v_Su_35 : SCs "SeptetCentre$SubmitRules" 35 M_Ro_dataSize 1 := ⟨⟨Or.inl (tb2 _ (List.mem_of_getElem? (i := 213) (by decide +kernel))), kc_Ro_dataSize, ki_Ro_dataSize, by decide +kernel, by decide +kernel⟩, ks_Ro_dataSize, by unfold nPar; decide +kernel⟩
theorem v_Su_38 : VC "SeptetCentre$SubmitRules" 38 M_Ro_hasHeader 5 0 := ⟨⟨Or.inl (tb2 _ (List.mem_of_getElem? (i := 214) (by decide +kernel))), kc_Ro_hasHeader, ki_Ro_hasHeader, by decide +kernel, by decide +kernel⟩, kn_Ro_hasHeader, kv_Ro_hasHeader, ⟨_, _, rfl⟩, by unfold nPar; decide +kernel⟩
theorem v_Su_42 : SCs "SeptetCentre$SubmitRules" 42 M_Su_isHeader 2 := ⟨⟨Or.inl (tb2 _ (List.mem_of_getElem? (i := 215) (by decide +kernel))), kc_Su_isHeader, ki_Su_isHeader, by decide +kernel, by decide +kernel⟩, ks_Su_isHeader, by unfold nPar; decide +kernel⟩
theorem v_Su_45 : SCs "SeptetCentre$SubmitRules" 45 M_Su_isText 2 := ⟨⟨Or.inl (tb2 _ (List.mem_of_getElem? (i := 218) (by decide +kernel))), kc_Su_isText, ki_Su_isText, by decide +kernel, by decide +kernel⟩, ks_Su_isText, by unfold nPar; decide +kernel⟩
theorem v_Su_48 : VC "SeptetCentre$SubmitRules" 48 M_Ro_firstBit 5 0 := ⟨⟨Or.inl (tb2 _ (List.mem_of_getElem? (i := 221) (by decide +kernel))), kc_Ro_firstBit, ki_Ro_firstBit, by decide +kernel, by decide +kernel⟩, kn_Ro_firstBit, kv_Ro_firstBit, ⟨_, _, rfl⟩, by unfold nPar; decide +kernel⟩
theorem v_Su_51 : VC "SeptetCentre$SubmitRules" 51 M_Ro_septetAt 5 2 := ⟨⟨Or.inl (tb2 _ (List.mem_of_getElem? (i := 222) (by decide +kernel))), kc_Ro_septetAt, ki_Ro_septetAt, by decide +kernel, by decide +kernel⟩, kn_Ro_septetAt, kv_Ro_septetAt, ⟨_, _, rfl⟩, by unfold nPar; decide +kernel⟩
theorem v_Su_54 : SCs "SeptetCentre$SubmitRules" 54 M_Al_second 1 := ⟨⟨Or.inl (tb2 _ (List.mem_of_getElem? (i := 226) (by decide +kernel))), kc_Al_second, ki_Al_second, by decide +kernel, by decide +kernel⟩, ks_Al_second, by unfold nPar; decide +kernel⟩
theorem v_SC_122 : ICi "SeptetCentre" 122 M_Me_init 3 := ⟨⟨Or.inl (tb2 _ (List.mem_of_getElem? (i := 231) (by decide +kernel))), kc_Me_init, ki_Me_init, by decide +kernel, by decide +kernel⟩, kn_Me_init, rfl, rfl, by unfold nPar; decide +kernel⟩
theorem v_Me_44 : VC "SeptetCentre$Message" 44 M_Ro_numberAt 5 1 := ⟨⟨Or.inl (tb2 _ (List.mem_of_getElem? (i := 237) (by decide +kernel))), kc_Ro_numberAt, ki_Ro_numberAt, by decide +kernel, by decide +kernel⟩, kn_Ro_numberAt, kv_Ro_numberAt, ⟨_, _, rfl⟩, by unfold nPar; decide +kernel⟩
theorem v_Ro_61 : VC "SeptetCentre$Row" 61 M_Ro_digitAt 5 2 := ⟨⟨Or.inl (tb3 _ (List.mem_of_getElem? (i := 1) (by decide +kernel))), kc_Ro_digitAt, ki_Ro_digitAt, by decide +kernel, by decide +kernel⟩, kn_Ro_digitAt, kv_Ro_digitAt, ⟨_, _, rfl⟩, by unfold nPar; decide +kernel⟩
theorem v_Me_51 : VC "SeptetCentre$Message" 51 M_Ro_submitDataAt 5 0 := ⟨⟨Or.inl (tb3 _ (List.mem_of_getElem? (i := 2) (by decide +kernel))), kc_Ro_submitDataAt, ki_Ro_submitDataAt, by decide +kernel, by decide +kernel⟩, kn_Ro_submitDataAt, kv_Ro_submitDataAt, ⟨_, _, rfl⟩, by unfold nPar; decide +kernel⟩
theorem v_Me_55 : VC "SeptetCentre$Message" 55 M_Ro_at 5 1 := ⟨⟨Or.inl (tb3 _ (List.mem_of_getElem? (i := 3) (by decide +kernel))), kc_Ro_at, ki_Ro_at, by decide +kernel, by decide +kernel⟩, kn_Ro_at, kv_Ro_at, ⟨_, _, rfl⟩, by unfold nPar; decide +kernel⟩
theorem v_SC_125 : VC "SeptetCentre" 125 M_AL_add 2 1 := ⟨⟨Or.inl (tb3 _ (List.mem_of_getElem? (i := 36) (by decide +kernel))), kc_AL_add, ki_AL_add, by decide +kernel, by decide +kernel⟩, kn_AL_add, kv_AL_add, ⟨_, _, rfl⟩, by unfold nPar; decide +kernel⟩
theorem v_LW_49 : VC "SeptetCentreLaw" 49 M_SC_advance 0 1 := ⟨⟨Or.inl (tb3 _ (List.mem_of_getElem? (i := 37) (by decide +kernel))), kc_SC_advance, ki_SC_advance, by decide +kernel, by decide +kernel⟩, kn_SC_advance, kv_SC_advance, ⟨_, _, rfl⟩, by unfold nPar; decide +kernel⟩
theorem v_SC_131 : VC "SeptetCentre" 131 M_SC_earliestPlace 0 0 := ⟨⟨Or.inl (tb3 _ (List.mem_of_getElem? (i := 43) (by decide +kernel))), kc_SC_earliestPlace, ki_SC_earliestPlace, by decide +kernel, by decide +kernel⟩, kn_SC_earliestPlace, kv_SC_earliestPlace, ⟨_, _, rfl⟩, by unfold nPar; decide +kernel⟩
theorem v_SC_134 : VC "SeptetCentre" 134 M_AL_get 2 1 := ⟨⟨Or.inl (tb3 _ (List.mem_of_getElem? (i := 47) (by decide +kernel))), kc_AL_get, ki_AL_get, by decide +kernel, by decide +kernel⟩, kn_AL_get, kv_AL_get, ⟨_, _, rfl⟩, by unfold nPar; decide +kernel⟩
theorem v_SC_138 : VC "SeptetCentre" 138 M_Me_moment 6 0 := ⟨⟨Or.inl (tb3 _ (List.mem_of_getElem? (i := 48) (by decide +kernel))), kc_Me_moment, ki_Me_moment, by decide +kernel, by decide +kernel⟩, kn_Me_moment, kv_Me_moment, ⟨_, _, rfl⟩, by unfold nPar; decide +kernel⟩
theorem v_SC_141 : VC "SeptetCentre" 141 M_SC_dealWith 0 2 := ⟨⟨Or.inl (tb3 _ (List.mem_of_getElem? (i := 53) (by decide +kernel))), kc_SC_dealWith, ki_SC_dealWith, by decide +kernel, by decide +kernel⟩, kn_SC_dealWith, kv_SC_dealWith, ⟨_, _, rfl⟩, by unfold nPar; decide +kernel⟩
theorem v_SC_251 : VC "SeptetCentre" 251 M_SC_holderOf 0 1 := ⟨⟨Or.inl (tb3 _ (List.mem_of_getElem? (i := 59) (by decide +kernel))), kc_SC_holderOf, ki_SC_holderOf, by decide +kernel, by decide +kernel⟩, kn_SC_holderOf, kv_SC_holderOf, ⟨_, _, rfl⟩, by unfold nPar; decide +kernel⟩
theorem v_SC_258 : VC "SeptetCentre" 258 M_Me_asDeliver 6 0 := ⟨⟨Or.inl (tb3 _ (List.mem_of_getElem? (i := 65) (by decide +kernel))), kc_Me_asDeliver, ki_Me_asDeliver, by decide +kernel, by decide +kernel⟩, kn_Me_asDeliver, kv_Me_asDeliver, ⟨_, _, rfl⟩, by unfold nPar; decide +kernel⟩
theorem v_Me_71 : VC "SeptetCentre$Message" 71 M_Ro_size 5 0 := ⟨⟨Or.inl (tb3 _ (List.mem_of_getElem? (i := 70) (by decide +kernel))), kc_Ro_size, ki_Ro_size, by decide +kernel, by decide +kernel⟩, kn_Ro_size, kv_Ro_size, ⟨_, _, rfl⟩, by unfold nPar; decide +kernel⟩
theorem v_Me_74 : SCs "SeptetCentre$Message" 74 M_Ro_deliverSize 2 := ⟨⟨Or.inl (tb3 _ (List.mem_of_getElem? (i := 71) (by decide +kernel))), kc_Ro_deliverSize, ki_Ro_deliverSize, by decide +kernel, by decide +kernel⟩, ks_Ro_deliverSize, by unfold nPar; decide +kernel⟩
theorem v_Me_78 : ICi "SeptetCentre$Message" 78 M_Ro_init 2 := ⟨⟨Or.inl (tb3 _ (List.mem_of_getElem? (i := 74) (by decide +kernel))), kc_Ro_init, ki_Ro_init, by decide +kernel, by decide +kernel⟩, kn_Ro_init, rfl, rfl, by unfold nPar; decide +kernel⟩
theorem v_Me_81 : VC "SeptetCentre$Message" 81 M_Ro_hasHeader 5 0 := ⟨⟨Or.inl (tb3 _ (List.mem_of_getElem? (i := 75) (by decide +kernel))), kc_Ro_hasHeader, ki_Ro_hasHeader, by decide +kernel, by decide +kernel⟩, kn_Ro_hasHeader, kv_Ro_hasHeader, ⟨_, _, rfl⟩, by unfold nPar; decide +kernel⟩
theorem v_Me_85 : VC "SeptetCentre$Message" 85 M_Ro_put 5 1 := ⟨⟨Or.inl (tb3 _ (List.mem_of_getElem? (i := 76) (by decide +kernel))), kc_Ro_put, ki_Ro_put, by decide +kernel, by decide +kernel⟩, kn_Ro_put, kv_Ro_put, ⟨_, _, rfl⟩, by unfold nPar; decide +kernel⟩
theorem v_Me_89 : VC "SeptetCentre$Message" 89 M_Ro_putAddress 5 1 := ⟨⟨Or.inl (tb3 _ (List.mem_of_getElem? (i := 77) (by decide +kernel))), kc_Ro_putAddress, ki_Ro_putAddress, by decide +kernel, by decide +kernel⟩, kn_Ro_putAddress, kv_Ro_putAddress, ⟨_, _, rfl⟩, by unfold nPar; decide +kernel⟩
theorem v_Me_93 : VC "SeptetCentre$Message" 93 M_Ro_putTime 5 1 := ⟨⟨Or.inl (tb3 _ (List.mem_of_getElem? (i := 78) (by decide +kernel))), kc_Ro_putTime, ki_Ro_putTime, by decide +kernel, by decide +kernel⟩, kn_Ro_putTime, kv_Ro_putTime, ⟨_, _, rfl⟩, by unfold nPar; decide +kernel⟩
theorem v_Me_96 : VC "SeptetCentre$Message" 96 M_Ro_putRest 5 2 := ⟨⟨Or.inl (tb3 _ (List.mem_of_getElem? (i := 82) (by decide +kernel))), kc_Ro_putRest, ki_Ro_putRest, by decide +kernel, by decide +kernel⟩, kn_Ro_putRest, kv_Ro_putRest, ⟨_, _, rfl⟩, by unfold nPar; decide +kernel⟩
theorem v_Ro_54 : VC "SeptetCentre$Row" 54 M_Ro_size 5 0 := ⟨⟨Or.inl (tb3 _ (List.mem_of_getElem? (i := 86) (by decide +kernel))), kc_Ro_size, ki_Ro_size, by decide +kernel, by decide +kernel⟩, kn_Ro_size, kv_Ro_size, ⟨_, _, rfl⟩, by unfold nPar; decide +kernel⟩
theorem v_SC_264 : VC "SeptetCentre" 264 M_Me_putOff 6 1 := ⟨⟨Or.inl (tb3 _ (List.mem_of_getElem? (i := 89) (by decide +kernel))), kc_Me_putOff, ki_Me_putOff, by decide +kernel, by decide +kernel⟩, kn_Me_putOff, kv_Me_putOff, ⟨_, _, rfl⟩, by unfold nPar; decide +kernel⟩
theorem v_SC_154 : VC "SeptetCentre" 154 M_AL_remove 2 1 := ⟨⟨Or.inl (tb3 _ (List.mem_of_getElem? (i := 94) (by decide +kernel))), kc_AL_remove, ki_AL_remove, by decide +kernel, by decide +kernel⟩, kn_AL_remove, kv_AL_remove, ⟨_, _, rfl⟩, by unfold nPar; decide +kernel⟩
theorem v_SC_157 : VC "SeptetCentre" 157 M_Me_fileReport 6 1 := ⟨⟨Or.inl (tb3 _ (List.mem_of_getElem? (i := 95) (by decide +kernel))), kc_Me_fileReport, ki_Me_fileReport, by decide +kernel, by decide +kernel⟩, kn_Me_fileReport, kv_Me_fileReport, ⟨_, _, rfl⟩, by unfold nPar; decide +kernel⟩
theorem v_Me_104 : VC "SeptetCentre$Message" 104 M_Li_room 1 0 := ⟨⟨Or.inl (tb3 _ (List.mem_of_getElem? (i := 99) (by decide +kernel))), kc_Li_room, ki_Li_room, by decide +kernel, by decide +kernel⟩, kn_Li_room, kv_Li_room, ⟨_, _, rfl⟩, by unfold nPar; decide +kernel⟩
theorem v_Me_109 : SCs "SeptetCentre$Message" 109 M_Ro_reportSize 1 := ⟨⟨Or.inl (tb3 _ (List.mem_of_getElem? (i := 100) (by decide +kernel))), kc_Ro_reportSize, ki_Ro_reportSize, by decide +kernel, by decide +kernel⟩, ks_Ro_reportSize, by unfold nPar; decide +kernel⟩
theorem v_Me_116 : VC "SeptetCentre$Message" 116 M_Li_append 1 1 := ⟨⟨Or.inl (tb3 _ (List.mem_of_getElem? (i := 103) (by decide +kernel))), kc_Li_append, ki_Li_append, by decide +kernel, by decide +kernel⟩, kn_Li_append, kv_Li_append, ⟨_, _, rfl⟩, by unfold nPar; decide +kernel⟩
theorem v_LW_54 : VC "SeptetCentreLaw" 54 M_SC_take 0 1 := ⟨⟨Or.inl (tb3 _ (List.mem_of_getElem? (i := 104) (by decide +kernel))), kc_SC_take, ki_SC_take, by decide +kernel, by decide +kernel⟩, kn_SC_take, kv_SC_take, ⟨_, _, rfl⟩, by unfold nPar; decide +kernel⟩
theorem v_SC_163 : VC "SeptetCentre" 163 M_De_read 4 1 := ⟨⟨Or.inl (tb3 _ (List.mem_of_getElem? (i := 108) (by decide +kernel))), kc_De_read, ki_De_read, by decide +kernel, by decide +kernel⟩, kn_De_read, kv_De_read, ⟨_, _, rfl⟩, by unfold nPar; decide +kernel⟩
theorem v_De_41 : VC "SeptetCentre$Device" 41 M_Ro_numberAt 5 1 := ⟨⟨Or.inl (tb3 _ (List.mem_of_getElem? (i := 112) (by decide +kernel))), kc_Ro_numberAt, ki_Ro_numberAt, by decide +kernel, by decide +kernel⟩, kn_Ro_numberAt, kv_Ro_numberAt, ⟨_, _, rfl⟩, by unfold nPar; decide +kernel⟩
theorem v_De_45 : VC "SeptetCentre$Device" 45 M_Ro_hasHeader 5 0 := ⟨⟨Or.inl (tb3 _ (List.mem_of_getElem? (i := 113) (by decide +kernel))), kc_Ro_hasHeader, ki_Ro_hasHeader, by decide +kernel, by decide +kernel⟩, kn_Ro_hasHeader, kv_Ro_hasHeader, ⟨_, _, rfl⟩, by unfold nPar; decide +kernel⟩
theorem v_De_49 : VC "SeptetCentre$Device" 49 M_De_gather 4 2 := ⟨⟨Or.inl (tb3 _ (List.mem_of_getElem? (i := 114) (by decide +kernel))), kc_De_gather, ki_De_gather, by decide +kernel, by decide +kernel⟩, kn_De_gather, kv_De_gather, ⟨_, _, rfl⟩, by unfold nPar; decide +kernel⟩
theorem v_De_64 : VC "SeptetCentre$Device" 64 M_Ro_deliverDataAt 5 0 := ⟨⟨Or.inl (tb3 _ (List.mem_of_getElem? (i := 118) (by decide +kernel))), kc_Ro_deliverDataAt, ki_Ro_deliverDataAt, by decide +kernel, by decide +kernel⟩, kn_Ro_deliverDataAt, kv_Ro_deliverDataAt, ⟨_, _, rfl⟩, by unfold nPar; decide +kernel⟩
theorem v_De_68 : VC "SeptetCentre$Device" 68 M_Ro_at 5 1 := ⟨⟨Or.inl (tb3 _ (List.mem_of_getElem? (i := 122) (by decide +kernel))), kc_Ro_at, ki_Ro_at, by decide +kernel, by decide +kernel⟩, kn_Ro_at, kv_Ro_at, ⟨_, _, rfl⟩, by unfold nPar; decide +kernel⟩
theorem v_De_72 : VC "SeptetCentre$Device" 72 M_De_pilePlace 4 3 := ⟨⟨Or.inl (tb3 _ (List.mem_of_getElem? (i := 123) (by decide +kernel))), kc_De_pilePlace, ki_De_pilePlace, by decide +kernel, by decide +kernel⟩, kn_De_pilePlace, kv_De_pilePlace, ⟨_, _, rfl⟩, by unfold nPar; decide +kernel⟩
theorem v_De_95 : VC "SeptetCentre$Device" 95 M_AL_size 2 0 := ⟨⟨Or.inl (tb3 _ (List.mem_of_getElem? (i := 127) (by decide +kernel))), kc_AL_size, ki_AL_size, by decide +kernel, by decide +kernel⟩, kn_AL_size, kv_AL_size, ⟨_, _, rfl⟩, by unfold nPar; decide +kernel⟩
theorem v_De_76 : VC "SeptetCentre$Device" 76 M_AL_get 2 1 := ⟨⟨Or.inl (tb3 _ (List.mem_of_getElem? (i := 128) (by decide +kernel))), kc_AL_get, ki_AL_get, by decide +kernel, by decide +kernel⟩, kn_AL_get, kv_AL_get, ⟨_, _, rfl⟩, by unfold nPar; decide +kernel⟩
theorem v_De_98 : VC "SeptetCentre$Device" 98 M_Pi_gathers 7 3 := ⟨⟨Or.inl (tb3 _ (List.mem_of_getElem? (i := 130) (by decide +kernel))), kc_Pi_gathers, ki_Pi_gathers, by decide +kernel, by decide +kernel⟩, kn_Pi_gathers, kv_Pi_gathers, ⟨_, _, rfl⟩, by unfold nPar; decide +kernel⟩
theorem v_De_89 : VC "SeptetCentre$Device" 89 M_AL_remove 2 1 := ⟨⟨Or.inl (tb3 _ (List.mem_of_getElem? (i := 134) (by decide +kernel))), kc_AL_remove, ki_AL_remove, by decide +kernel, by decide +kernel⟩, kn_AL_remove, kv_AL_remove, ⟨_, _, rfl⟩, by unfold nPar; decide +kernel⟩
theorem v_De_102 : ICi "SeptetCentre$Device" 102 M_Pi_init 3 := ⟨⟨Or.inl (tb3 _ (List.mem_of_getElem? (i := 136) (by decide +kernel))), kc_Pi_init, ki_Pi_init, by decide +kernel, by decide +kernel⟩, kn_Pi_init, rfl, rfl, by unfold nPar; decide +kernel⟩
theorem v_De_105 : VC "SeptetCentre$Device" 105 M_AL_add 2 1 := ⟨⟨Or.inl (tb3 _ (List.mem_of_getElem? (i := 155) (by decide +kernel))), kc_AL_add, ki_AL_add, by decide +kernel, by decide +kernel⟩, kn_AL_add, kv_AL_add, ⟨_, _, rfl⟩, by unfold nPar; decide +kernel⟩
theorem v_De_82 : VC "SeptetCentre$Device" 82 M_Pi_keep 7 2 := ⟨⟨Or.inl (tb3 _ (List.mem_of_getElem? (i := 156) (by decide +kernel))), kc_Pi_keep, ki_Pi_keep, by decide +kernel, by decide +kernel⟩, kn_Pi_keep, kv_Pi_keep, ⟨_, _, rfl⟩, by unfold nPar; decide +kernel⟩
theorem v_De_86 : VC "SeptetCentre$Device" 86 M_Pi_lacking 7 0 := ⟨⟨Or.inl (tb3 _ (List.mem_of_getElem? (i := 160) (by decide +kernel))), kc_Pi_lacking, ki_Pi_lacking, by decide +kernel, by decide +kernel⟩, kn_Pi_lacking, kv_Pi_lacking, ⟨_, _, rfl⟩, by unfold nPar; decide +kernel⟩
theorem v_De_92 : VC "SeptetCentre$Device" 92 M_Pi_readText 7 1 := ⟨⟨Or.inl (tb3 _ (List.mem_of_getElem? (i := 164) (by decide +kernel))), kc_Pi_readText, ki_Pi_readText, by decide +kernel, by decide +kernel⟩, kn_Pi_readText, kv_Pi_readText, ⟨_, _, rfl⟩, by unfold nPar; decide +kernel⟩
theorem v_Pi_26 : VC "SeptetCentre$Pile" 26 M_Ro_readText 5 2 := ⟨⟨Or.inl (tb3 _ (List.mem_of_getElem? (i := 168) (by decide +kernel))), kc_Ro_readText, ki_Ro_readText, by decide +kernel, by decide +kernel⟩, kn_Ro_readText, kv_Ro_readText, ⟨_, _, rfl⟩, by unfold nPar; decide +kernel⟩
theorem v_Ro_69 : VC "SeptetCentre$Row" 69 M_Ro_deliverDataAt 5 0 := ⟨⟨Or.inl (tb3 _ (List.mem_of_getElem? (i := 172) (by decide +kernel))), kc_Ro_deliverDataAt, ki_Ro_deliverDataAt, by decide +kernel, by decide +kernel⟩, kn_Ro_deliverDataAt, kv_Ro_deliverDataAt, ⟨_, _, rfl⟩, by unfold nPar; decide +kernel⟩
theorem v_Ro_72 : VC "SeptetCentre$Row" 72 M_Ro_firstBit 5 0 := ⟨⟨Or.inl (tb3 _ (List.mem_of_getElem? (i := 173) (by decide +kernel))), kc_Ro_firstBit, ki_Ro_firstBit, by decide +kernel, by decide +kernel⟩, kn_Ro_firstBit, kv_Ro_firstBit, ⟨_, _, rfl⟩, by unfold nPar; decide +kernel⟩
theorem v_Ro_75 : VC "SeptetCentre$Row" 75 M_Ro_septetAt 5 2 := ⟨⟨Or.inl (tb3 _ (List.mem_of_getElem? (i := 174) (by decide +kernel))), kc_Ro_septetAt, ki_Ro_septetAt, by decide +kernel, by decide +kernel⟩, kn_Ro_septetAt, kv_Ro_septetAt, ⟨_, _, rfl⟩, by unfold nPar; decide +kernel⟩
theorem v_Ro_80 : SCs "SeptetCentre$Row" 80 M_Al_second 1 := ⟨⟨Or.inl (tb3 _ (List.mem_of_getElem? (i := 175) (by decide +kernel))), kc_Al_second, ki_Al_second, by decide +kernel, by decide +kernel⟩, ks_Al_second, by unfold nPar; decide +kernel⟩
theorem v_Ro_83 : SCs "SeptetCentre$Row" 83 M_Al_plain 1 := ⟨⟨Or.inl (tb3 _ (List.mem_of_getElem? (i := 176) (by decide +kernel))), kc_Al_plain, ki_Al_plain, by decide +kernel, by decide +kernel⟩, ks_Al_plain, by unfold nPar; decide +kernel⟩
theorem v_De_53 : VC "SeptetCentre$Device" 53 M_Ro_readText 5 2 := ⟨⟨Or.inl (tb3 _ (List.mem_of_getElem? (i := 179) (by decide +kernel))), kc_Ro_readText, ki_Ro_readText, by decide +kernel, by decide +kernel⟩, kn_Ro_readText, kv_Ro_readText, ⟨_, _, rfl⟩, by unfold nPar; decide +kernel⟩
theorem v_LW_58 : VC "SeptetCentreLaw" 58 M_SC_copy 0 1 := ⟨⟨Or.inl (tb3 _ (List.mem_of_getElem? (i := 180) (by decide +kernel))), kc_SC_copy, ki_SC_copy, by decide +kernel, by decide +kernel⟩, kn_SC_copy, kv_SC_copy, ⟨_, _, rfl⟩, by unfold nPar; decide +kernel⟩
theorem v_LW_63 : VC "SeptetCentreLaw" 63 M_SC_swap 0 1 := ⟨⟨Or.inl (tb3 _ (List.mem_of_getElem? (i := 184) (by decide +kernel))), kc_SC_swap, ki_SC_swap, by decide +kernel, by decide +kernel⟩, kn_SC_swap, kv_SC_swap, ⟨_, _, rfl⟩, by unfold nPar; decide +kernel⟩
theorem v_SC_170 : VC "SeptetCentre" 170 M_Li_exchangeFirstTwo 1 0 := ⟨⟨Or.inl (tb3 _ (List.mem_of_getElem? (i := 188) (by decide +kernel))), kc_Li_exchangeFirstTwo, ki_Li_exchangeFirstTwo, by decide +kernel, by decide +kernel⟩, kn_Li_exchangeFirstTwo, kv_Li_exchangeFirstTwo, ⟨_, _, rfl⟩, by unfold nPar; decide +kernel⟩
theorem v_Li_41 : VC "SeptetCentre$Line" 41 M_AL_set 2 2 := ⟨⟨Or.inl (tb3 _ (List.mem_of_getElem? (i := 192) (by decide +kernel))), kc_AL_set, ki_AL_set, by decide +kernel, by decide +kernel⟩, kn_AL_set, kv_AL_set, ⟨_, _, rfl⟩, by unfold nPar; decide +kernel⟩
theorem v_LW_67 : VC "SeptetCentreLaw" 67 M_SC_report 0 1 := ⟨⟨Or.inl (tb3 _ (List.mem_of_getElem? (i := 196) (by decide +kernel))), kc_SC_report, ki_SC_report, by decide +kernel, by decide +kernel⟩, kn_SC_report, kv_SC_report, ⟨_, _, rfl⟩, by unfold nPar; decide +kernel⟩
theorem v_SC_176 : VC "SeptetCentre" 176 M_Ro_size 5 0 := ⟨⟨Or.inl (tb3 _ (List.mem_of_getElem? (i := 200) (by decide +kernel))), kc_Ro_size, ki_Ro_size, by decide +kernel, by decide +kernel⟩, kn_Ro_size, kv_Ro_size, ⟨_, _, rfl⟩, by unfold nPar; decide +kernel⟩
theorem v_SC_177 : VC "SeptetCentre" 177 M_Ro_at 5 1 := ⟨⟨Or.inl (tb3 _ (List.mem_of_getElem? (i := 201) (by decide +kernel))), kc_Ro_at, ki_Ro_at, by decide +kernel, by decide +kernel⟩, kn_Ro_at, kv_Ro_at, ⟨_, _, rfl⟩, by unfold nPar; decide +kernel⟩
theorem v_LW_71 : VC "SeptetCentreLaw" 71 M_SC_waiting 0 1 := ⟨⟨Or.inl (tb3 _ (List.mem_of_getElem? (i := 202) (by decide +kernel))), kc_SC_waiting, ki_SC_waiting, by decide +kernel, by decide +kernel⟩, kn_SC_waiting, kv_SC_waiting, ⟨_, _, rfl⟩, by unfold nPar; decide +kernel⟩
theorem v_SC_181 : VC "SeptetCentre" 181 M_SC_lineOf 0 1 := ⟨⟨Or.inl (tb3 _ (List.mem_of_getElem? (i := 206) (by decide +kernel))), kc_SC_lineOf, ki_SC_lineOf, by decide +kernel, by decide +kernel⟩, kn_SC_lineOf, kv_SC_lineOf, ⟨_, _, rfl⟩, by unfold nPar; decide +kernel⟩
theorem v_SC_185 : VC "SeptetCentre" 185 M_Li_size 1 0 := ⟨⟨Or.inl (tb3 _ (List.mem_of_getElem? (i := 210) (by decide +kernel))), kc_Li_size, ki_Li_size, by decide +kernel, by decide +kernel⟩, kn_Li_size, kv_Li_size, ⟨_, _, rfl⟩, by unfold nPar; decide +kernel⟩
theorem v_LW_75 : VC "SeptetCentreLaw" 75 M_SC_byteAt 0 2 := ⟨⟨Or.inl (tb3 _ (List.mem_of_getElem? (i := 214) (by decide +kernel))), kc_SC_byteAt, ki_SC_byteAt, by decide +kernel, by decide +kernel⟩, kn_SC_byteAt, kv_SC_byteAt, ⟨_, _, rfl⟩, by unfold nPar; decide +kernel⟩
theorem v_LW_80 : VC "SeptetCentreLaw" 80 M_SC_text 0 2 := ⟨⟨Or.inl (tb3 _ (List.mem_of_getElem? (i := 218) (by decide +kernel))), kc_SC_text, ki_SC_text, by decide +kernel, by decide +kernel⟩, kn_SC_text, kv_SC_text, ⟨_, _, rfl⟩, by unfold nPar; decide +kernel⟩
theorem v_LW_84 : VC "SeptetCentreLaw" 84 M_SC_sender 0 1 := ⟨⟨Or.inl (tb3 _ (List.mem_of_getElem? (i := 222) (by decide +kernel))), kc_SC_sender, ki_SC_sender, by decide +kernel, by decide +kernel⟩, kn_SC_sender, kv_SC_sender, ⟨_, _, rfl⟩, by unfold nPar; decide +kernel⟩
theorem v_LW_89 : VC "SeptetCentreLaw" 89 M_SC_state 0 1 := ⟨⟨Or.inl (tb3 _ (List.mem_of_getElem? (i := 226) (by decide +kernel))), kc_SC_state, ki_SC_state, by decide +kernel, by decide +kernel⟩, kn_SC_state, kv_SC_state, ⟨_, _, rfl⟩, by unfold nPar; decide +kernel⟩
theorem v_LW_93 : VC "SeptetCentreLaw" 93 M_SC_offers 0 1 := ⟨⟨Or.inl (tb3 _ (List.mem_of_getElem? (i := 230) (by decide +kernel))), kc_SC_offers, ki_SC_offers, by decide +kernel, by decide +kernel⟩, kn_SC_offers, kv_SC_offers, ⟨_, _, rfl⟩, by unfold nPar; decide +kernel⟩
theorem v_LW_97 : VC "SeptetCentreLaw" 97 M_SC_time 0 0 := ⟨⟨Or.inl (tb3 _ (List.mem_of_getElem? (i := 234) (by decide +kernel))), kc_SC_time, ki_SC_time, by decide +kernel, by decide +kernel⟩, kn_SC_time, kv_SC_time, ⟨_, _, rfl⟩, by unfold nPar; decide +kernel⟩
theorem v_LW_12 : ICi "SeptetCentreLaw" 12 M_MO_init 0 := ⟨⟨Or.inl (tb4 _ (List.mem_of_getElem? (i := 0) (by decide +kernel))), kc_MO_init, ki_MO_init, by decide +kernel, by decide +kernel⟩, kn_MO_init, rfl, rfl, by unfold nPar; decide +kernel⟩
theorem v_LW_19 : VC "SeptetCentreLaw" 19 M_MO_register 8 2 := ⟨⟨Or.inl (tb4 _ (List.mem_of_getElem? (i := 130) (by decide +kernel))), kc_MO_register, ki_MO_register, by decide +kernel, by decide +kernel⟩, kn_MO_register, kv_MO_register, ⟨_, _, rfl⟩, by unfold nPar; decide +kernel⟩
theorem v_MO_187 : SCs "SeptetCentreModel" 187 M_MO_isDevice 1 := ⟨⟨Or.inl (tb4 _ (List.mem_of_getElem? (i := 134) (by decide +kernel))), kc_MO_isDevice, ki_MO_isDevice, by decide +kernel, by decide +kernel⟩, ks_MO_isDevice, by unfold nPar; decide +kernel⟩
theorem v_MO_191 : SCs "SeptetCentreModel" 191 M_MO_isNumber 1 := ⟨⟨Or.inl (tb4 _ (List.mem_of_getElem? (i := 137) (by decide +kernel))), kc_MO_isNumber, ki_MO_isNumber, by decide +kernel, by decide +kernel⟩, ks_MO_isNumber, by unfold nPar; decide +kernel⟩
theorem v_LW_24 : VC "SeptetCentreLaw" 24 M_MO_power1 8 2 := ⟨⟨Or.inl (tb4 _ (List.mem_of_getElem? (i := 141) (by decide +kernel))), kc_MO_power1, ki_MO_power1, by decide +kernel, by decide +kernel⟩, kn_MO_power1, kv_MO_power1, ⟨_, _, rfl⟩, by unfold nPar; decide +kernel⟩
theorem v_LW_29 : VC "SeptetCentreLaw" 29 M_MO_type 8 2 := ⟨⟨Or.inl (tb4 _ (List.mem_of_getElem? (i := 145) (by decide +kernel))), kc_MO_type, ki_MO_type, by decide +kernel, by decide +kernel⟩, kn_MO_type, kv_MO_type, ⟨_, _, rfl⟩, by unfold nPar; decide +kernel⟩
theorem v_LW_33 : VC "SeptetCentreLaw" 33 M_MO_wipe 8 0 := ⟨⟨Or.inl (tb4 _ (List.mem_of_getElem? (i := 149) (by decide +kernel))), kc_MO_wipe, ki_MO_wipe, by decide +kernel, by decide +kernel⟩, kn_MO_wipe, kv_MO_wipe, ⟨_, _, rfl⟩, by unfold nPar; decide +kernel⟩
theorem v_LW_38 : VC "SeptetCentreLaw" 38 M_MO_send 8 4 := ⟨⟨Or.inl (tb4 _ (List.mem_of_getElem? (i := 153) (by decide +kernel))), kc_MO_send, ki_MO_send, by decide +kernel, by decide +kernel⟩, kn_MO_send, kv_MO_send, ⟨_, _, rfl⟩, by unfold nPar; decide +kernel⟩
theorem v_MO_201 : VC "SeptetCentreModel" 201 M_MO_encode 8 1 := ⟨⟨Or.inl (tb4 _ (List.mem_of_getElem? (i := 157) (by decide +kernel))), kc_MO_encode, ki_MO_encode, by decide +kernel, by decide +kernel⟩, kn_MO_encode, kv_MO_encode, ⟨_, _, rfl⟩, by unfold nPar; decide +kernel⟩
theorem v_MO_121 : SCs "SeptetCentreModel" 121 M_MO_plain 1 := ⟨⟨Or.inl (tb4 _ (List.mem_of_getElem? (i := 161) (by decide +kernel))), kc_MO_plain, ki_MO_plain, by decide +kernel, by decide +kernel⟩, ks_MO_plain, by unfold nPar; decide +kernel⟩
theorem v_MO_117 : SCs "SeptetCentreModel" 117 M_MO_upper 1 := ⟨⟨Or.inl (tb4 _ (List.mem_of_getElem? (i := 164) (by decide +kernel))), kc_MO_upper, ki_MO_upper, by decide +kernel, by decide +kernel⟩, ks_MO_upper, by unfold nPar; decide +kernel⟩
theorem v_MO_128 : SCs "SeptetCentreModel" 128 M_MO_escaped 1 := ⟨⟨Or.inl (tb4 _ (List.mem_of_getElem? (i := 167) (by decide +kernel))), kc_MO_escaped, ki_MO_escaped, by decide +kernel, by decide +kernel⟩, ks_MO_escaped, by unfold nPar; decide +kernel⟩
theorem v_MO_204 : VC "SeptetCentreModel" 204 M_MO_partsOf 8 0 := ⟨⟨Or.inl (tb4 _ (List.mem_of_getElem? (i := 170) (by decide +kernel))), kc_MO_partsOf, ki_MO_partsOf, by decide +kernel, by decide +kernel⟩, kn_MO_partsOf, kv_MO_partsOf, ⟨_, _, rfl⟩, by unfold nPar; decide +kernel⟩
theorem v_MO_198 : VC "SeptetCentreModel" 198 M_MO_cut 8 1 := ⟨⟨Or.inl (tb4 _ (List.mem_of_getElem? (i := 174) (by decide +kernel))), kc_MO_cut, ki_MO_cut, by decide +kernel, by decide +kernel⟩, kn_MO_cut, kv_MO_cut, ⟨_, _, rfl⟩, by unfold nPar; decide +kernel⟩
theorem v_MO_181 : VC "SeptetCentreModel" 181 M_MO_putSubmit 8 9 := ⟨⟨Or.inl (tb4 _ (List.mem_of_getElem? (i := 178) (by decide +kernel))), kc_MO_putSubmit, ki_MO_putSubmit, by decide +kernel, by decide +kernel⟩, kn_MO_putSubmit, kv_MO_putSubmit, ⟨_, _, rfl⟩, by unfold nPar; decide +kernel⟩
theorem v_MO_140 : VC "SeptetCentreModel" 140 M_MO_put 8 1 := ⟨⟨Or.inl (tb4 _ (List.mem_of_getElem? (i := 182) (by decide +kernel))), kc_MO_put, ki_MO_put, by decide +kernel, by decide +kernel⟩, kn_MO_put, kv_MO_put, ⟨_, _, rfl⟩, by unfold nPar; decide +kernel⟩
theorem v_MO_151 : VC "SeptetCentreModel" 151 M_MO_putAddress 8 1 := ⟨⟨Or.inl (tb4 _ (List.mem_of_getElem? (i := 186) (by decide +kernel))), kc_MO_putAddress, ki_MO_putAddress, by decide +kernel, by decide +kernel⟩, kn_MO_putAddress, kv_MO_putAddress, ⟨_, _, rfl⟩, by unfold nPar; decide +kernel⟩
theorem v_MO_136 : SCs "SeptetCentreModel" 136 M_MO_power 1 := ⟨⟨Or.inl (tb4 _ (List.mem_of_getElem? (i := 190) (by decide +kernel))), kc_MO_power, ki_MO_power, by decide +kernel, by decide +kernel⟩, ks_MO_power, by unfold nPar; decide +kernel⟩
theorem v_MO_144 : VC "SeptetCentreModel" 144 M_MO_putDigits 8 2 := ⟨⟨Or.inl (tb4 _ (List.mem_of_getElem? (i := 194) (by decide +kernel))), kc_MO_putDigits, ki_MO_putDigits, by decide +kernel, by decide +kernel⟩, kn_MO_putDigits, kv_MO_putDigits, ⟨_, _, rfl⟩, by unfold nPar; decide +kernel⟩
theorem v_MO_155 : VC "SeptetCentreModel" 155 M_MO_putData 8 5 := ⟨⟨Or.inl (tb4 _ (List.mem_of_getElem? (i := 198) (by decide +kernel))), kc_MO_putData, ki_MO_putData, by decide +kernel, by decide +kernel⟩, kn_MO_putData, kv_MO_putData, ⟨_, _, rfl⟩, by unfold nPar; decide +kernel⟩
theorem v_MO_148 : SCs "SeptetCentreModel" 148 M_MO_bytesFor 1 := ⟨⟨Or.inl (tb4 _ (List.mem_of_getElem? (i := 202) (by decide +kernel))), kc_MO_bytesFor, ki_MO_bytesFor, by decide +kernel, by decide +kernel⟩, ks_MO_bytesFor, by unfold nPar; decide +kernel⟩
theorem v_MO_208 : VC "SeptetCentreModel" 208 M_MO_append 8 2 := ⟨⟨Or.inl (tb4 _ (List.mem_of_getElem? (i := 205) (by decide +kernel))), kc_MO_append, ki_MO_append, by decide +kernel, by decide +kernel⟩, kn_MO_append, kv_MO_append, ⟨_, _, rfl⟩, by unfold nPar; decide +kernel⟩
theorem v_MO_159 : SCs "SeptetCentreModel" 159 M_MO_baseOf 1 := ⟨⟨Or.inl (tb4 _ (List.mem_of_getElem? (i := 209) (by decide +kernel))), kc_MO_baseOf, ki_MO_baseOf, by decide +kernel, by decide +kernel⟩, ks_MO_baseOf, by unfold nPar; decide +kernel⟩
theorem v_LW_43 : VC "SeptetCentreLaw" 43 M_MO_alter 8 2 := ⟨⟨Or.inl (tb4 _ (List.mem_of_getElem? (i := 212) (by decide +kernel))), kc_MO_alter, ki_MO_alter, by decide +kernel, by decide +kernel⟩, kn_MO_alter, kv_MO_alter, ⟨_, _, rfl⟩, by unfold nPar; decide +kernel⟩
theorem v_LW_48 : VC "SeptetCentreLaw" 48 M_MO_receive 8 0 := ⟨⟨Or.inl (tb4 _ (List.mem_of_getElem? (i := 216) (by decide +kernel))), kc_MO_receive, ki_MO_receive, by decide +kernel, by decide +kernel⟩, kn_MO_receive, kv_MO_receive, ⟨_, _, rfl⟩, by unfold nPar; decide +kernel⟩
theorem v_MO_217 : VC "SeptetCentreModel" 217 M_MO_load 8 1 := ⟨⟨Or.inl (tb4 _ (List.mem_of_getElem? (i := 220) (by decide +kernel))), kc_MO_load, ki_MO_load, by decide +kernel, by decide +kernel⟩, kn_MO_load, kv_MO_load, ⟨_, _, rfl⟩, by unfold nPar; decide +kernel⟩
theorem v_MO_220 : VC "SeptetCentreModel" 220 M_MO_legal 8 0 := ⟨⟨Or.inl (tb4 _ (List.mem_of_getElem? (i := 224) (by decide +kernel))), kc_MO_legal, ki_MO_legal, by decide +kernel, by decide +kernel⟩, kn_MO_legal, kv_MO_legal, ⟨_, _, rfl⟩, by unfold nPar; decide +kernel⟩
theorem v_MO_170 : VC "SeptetCentreModel" 170 M_MO_readNumber 8 1 := ⟨⟨Or.inl (tb4 _ (List.mem_of_getElem? (i := 228) (by decide +kernel))), kc_MO_readNumber, ki_MO_readNumber, by decide +kernel, by decide +kernel⟩, kn_MO_readNumber, kv_MO_readNumber, ⟨_, _, rfl⟩, by unfold nPar; decide +kernel⟩
theorem v_MO_173 : VC "SeptetCentreModel" 173 M_MO_readSeptets 8 2 := ⟨⟨Or.inl (tb4 _ (List.mem_of_getElem? (i := 232) (by decide +kernel))), kc_MO_readSeptets, ki_MO_readSeptets, by decide +kernel, by decide +kernel⟩, kn_MO_readSeptets, kv_MO_readSeptets, ⟨_, _, rfl⟩, by unfold nPar; decide +kernel⟩
theorem v_MO_166 : VC "SeptetCentreModel" 166 M_MO_bit 8 2 := ⟨⟨Or.inl (tb4 _ (List.mem_of_getElem? (i := 236) (by decide +kernel))), kc_MO_bit, ki_MO_bit, by decide +kernel, by decide +kernel⟩, kn_MO_bit, kv_MO_bit, ⟨_, _, rfl⟩, by unfold nPar; decide +kernel⟩
theorem v_MO_177 : VC "SeptetCentreModel" 177 M_MO_areText 8 0 := ⟨⟨Or.inl (tb5 _ (List.mem_of_getElem? (i := 0) (by decide +kernel))), kc_MO_areText, ki_MO_areText, by decide +kernel, by decide +kernel⟩, kn_MO_areText, kv_MO_areText, ⟨_, _, rfl⟩, by unfold nPar; decide +kernel⟩
theorem v_MO_223 : VC "SeptetCentreModel" 223 M_MO_removeFirst 8 1 := ⟨⟨Or.inl (tb5 _ (List.mem_of_getElem? (i := 4) (by decide +kernel))), kc_MO_removeFirst, ki_MO_removeFirst, by decide +kernel, by decide +kernel⟩, kn_MO_removeFirst, kv_MO_removeFirst, ⟨_, _, rfl⟩, by unfold nPar; decide +kernel⟩
theorem v_MO_162 : VC "SeptetCentreModel" 162 M_MO_move 8 2 := ⟨⟨Or.inl (tb5 _ (List.mem_of_getElem? (i := 8) (by decide +kernel))), kc_MO_move, ki_MO_move, by decide +kernel, by decide +kernel⟩, kn_MO_move, kv_MO_move, ⟨_, _, rfl⟩, by unfold nPar; decide +kernel⟩
theorem v_MO_229 : VC "SeptetCentreModel" 229 M_MO_keepData 8 2 := ⟨⟨Or.inl (tb5 _ (List.mem_of_getElem? (i := 12) (by decide +kernel))), kc_MO_keepData, ki_MO_keepData, by decide +kernel, by decide +kernel⟩, kn_MO_keepData, kv_MO_keepData, ⟨_, _, rfl⟩, by unfold nPar; decide +kernel⟩
theorem v_LW_53 : VC "SeptetCentreLaw" 53 M_MO_advance 8 1 := ⟨⟨Or.inl (tb5 _ (List.mem_of_getElem? (i := 16) (by decide +kernel))), kc_MO_advance, ki_MO_advance, by decide +kernel, by decide +kernel⟩, kn_MO_advance, kv_MO_advance, ⟨_, _, rfl⟩, by unfold nPar; decide +kernel⟩
theorem v_MO_247 : VC "SeptetCentreModel" 247 M_MO_earliest 8 0 := ⟨⟨Or.inl (tb5 _ (List.mem_of_getElem? (i := 21) (by decide +kernel))), kc_MO_earliest, ki_MO_earliest, by decide +kernel, by decide +kernel⟩, kn_MO_earliest, kv_MO_earliest, ⟨_, _, rfl⟩, by unfold nPar; decide +kernel⟩
theorem v_MO_232 : VC "SeptetCentreModel" 232 M_MO_moment 8 1 := ⟨⟨Or.inl (tb5 _ (List.mem_of_getElem? (i := 25) (by decide +kernel))), kc_MO_moment, ki_MO_moment, by decide +kernel, by decide +kernel⟩, kn_MO_moment, kv_MO_moment, ⟨_, _, rfl⟩, by unfold nPar; decide +kernel⟩
theorem v_MO_250 : VC "SeptetCentreModel" 250 M_MO_deal 8 1 := ⟨⟨Or.inl (tb5 _ (List.mem_of_getElem? (i := 29) (by decide +kernel))), kc_MO_deal, ki_MO_deal, by decide +kernel, by decide +kernel⟩, kn_MO_deal, kv_MO_deal, ⟨_, _, rfl⟩, by unfold nPar; decide +kernel⟩
theorem v_MO_235 : VC "SeptetCentreModel" 235 M_MO_settle 8 3 := ⟨⟨Or.inl (tb5 _ (List.mem_of_getElem? (i := 33) (by decide +kernel))), kc_MO_settle, ki_MO_settle, by decide +kernel, by decide +kernel⟩, kn_MO_settle, kv_MO_settle, ⟨_, _, rfl⟩, by unfold nPar; decide +kernel⟩
theorem v_MO_239 : VC "SeptetCentreModel" 239 M_MO_owner 8 1 := ⟨⟨Or.inl (tb5 _ (List.mem_of_getElem? (i := 37) (by decide +kernel))), kc_MO_owner, ki_MO_owner, by decide +kernel, by decide +kernel⟩, kn_MO_owner, kv_MO_owner, ⟨_, _, rfl⟩, by unfold nPar; decide +kernel⟩
theorem v_MO_243 : VC "SeptetCentreModel" 243 M_MO_deliver 8 2 := ⟨⟨Or.inl (tb5 _ (List.mem_of_getElem? (i := 41) (by decide +kernel))), kc_MO_deliver, ki_MO_deliver, by decide +kernel, by decide +kernel⟩, kn_MO_deliver, kv_MO_deliver, ⟨_, _, rfl⟩, by unfold nPar; decide +kernel⟩
theorem v_LW_57 : VC "SeptetCentreLaw" 57 M_MO_take 8 1 := ⟨⟨Or.inl (tb5 _ (List.mem_of_getElem? (i := 45) (by decide +kernel))), kc_MO_take, ki_MO_take, by decide +kernel, by decide +kernel⟩, kn_MO_take, kv_MO_take, ⟨_, _, rfl⟩, by unfold nPar; decide +kernel⟩
theorem v_MO_259 : VC "SeptetCentreModel" 259 M_MO_decode 8 2 := ⟨⟨Or.inl (tb5 _ (List.mem_of_getElem? (i := 49) (by decide +kernel))), kc_MO_decode, ki_MO_decode, by decide +kernel, by decide +kernel⟩, kn_MO_decode, kv_MO_decode, ⟨_, _, rfl⟩, by unfold nPar; decide +kernel⟩
theorem v_MO_263 : VC "SeptetCentreModel" 263 M_MO_pileFor 8 4 := ⟨⟨Or.inl (tb5 _ (List.mem_of_getElem? (i := 53) (by decide +kernel))), kc_MO_pileFor, ki_MO_pileFor, by decide +kernel, by decide +kernel⟩, kn_MO_pileFor, kv_MO_pileFor, ⟨_, _, rfl⟩, by unfold nPar; decide +kernel⟩
theorem v_MO_256 : VC "SeptetCentreModel" 256 M_MO_dropPile 8 2 := ⟨⟨Or.inl (tb5 _ (List.mem_of_getElem? (i := 57) (by decide +kernel))), kc_MO_dropPile, ki_MO_dropPile, by decide +kernel, by decide +kernel⟩, kn_MO_dropPile, kv_MO_dropPile, ⟨_, _, rfl⟩, by unfold nPar; decide +kernel⟩
theorem v_MO_253 : VC "SeptetCentreModel" 253 M_MO_movePile 8 2 := ⟨⟨Or.inl (tb5 _ (List.mem_of_getElem? (i := 61) (by decide +kernel))), kc_MO_movePile, ki_MO_movePile, by decide +kernel, by decide +kernel⟩, kn_MO_movePile, kv_MO_movePile, ⟨_, _, rfl⟩, by unfold nPar; decide +kernel⟩
theorem v_MO_267 : VC "SeptetCentreModel" 267 M_MO_together 8 2 := ⟨⟨Or.inl (tb5 _ (List.mem_of_getElem? (i := 65) (by decide +kernel))), kc_MO_together, ki_MO_together, by decide +kernel, by decide +kernel⟩, kn_MO_together, kv_MO_together, ⟨_, _, rfl⟩, by unfold nPar; decide +kernel⟩
theorem v_LW_62 : VC "SeptetCentreLaw" 62 M_MO_copy 8 1 := ⟨⟨Or.inl (tb5 _ (List.mem_of_getElem? (i := 69) (by decide +kernel))), kc_MO_copy, ki_MO_copy, by decide +kernel, by decide +kernel⟩, kn_MO_copy, kv_MO_copy, ⟨_, _, rfl⟩, by unfold nPar; decide +kernel⟩
theorem v_LW_66 : VC "SeptetCentreLaw" 66 M_MO_swap 8 1 := ⟨⟨Or.inl (tb5 _ (List.mem_of_getElem? (i := 73) (by decide +kernel))), kc_MO_swap, ki_MO_swap, by decide +kernel, by decide +kernel⟩, kn_MO_swap, kv_MO_swap, ⟨_, _, rfl⟩, by unfold nPar; decide +kernel⟩
theorem v_LW_70 : VC "SeptetCentreLaw" 70 M_MO_report 8 1 := ⟨⟨Or.inl (tb5 _ (List.mem_of_getElem? (i := 77) (by decide +kernel))), kc_MO_report, ki_MO_report, by decide +kernel, by decide +kernel⟩, kn_MO_report, kv_MO_report, ⟨_, _, rfl⟩, by unfold nPar; decide +kernel⟩
theorem v_LW_74 : VC "SeptetCentreLaw" 74 M_MO_waiting 8 1 := ⟨⟨Or.inl (tb5 _ (List.mem_of_getElem? (i := 81) (by decide +kernel))), kc_MO_waiting, ki_MO_waiting, by decide +kernel, by decide +kernel⟩, kn_MO_waiting, kv_MO_waiting, ⟨_, _, rfl⟩, by unfold nPar; decide +kernel⟩
theorem v_LW_79 : VC "SeptetCentreLaw" 79 M_MO_byteAt 8 2 := ⟨⟨Or.inl (tb5 _ (List.mem_of_getElem? (i := 85) (by decide +kernel))), kc_MO_byteAt, ki_MO_byteAt, by decide +kernel, by decide +kernel⟩, kn_MO_byteAt, kv_MO_byteAt, ⟨_, _, rfl⟩, by unfold nPar; decide +kernel⟩
theorem v_LW_83 : VC "SeptetCentreLaw" 83 M_MO_text 8 2 := ⟨⟨Or.inl (tb5 _ (List.mem_of_getElem? (i := 89) (by decide +kernel))), kc_MO_text, ki_MO_text, by decide +kernel, by decide +kernel⟩, kn_MO_text, kv_MO_text, ⟨_, _, rfl⟩, by unfold nPar; decide +kernel⟩
theorem v_LW_88 : VC "SeptetCentreLaw" 88 M_MO_sender 8 1 := ⟨⟨Or.inl (tb5 _ (List.mem_of_getElem? (i := 93) (by decide +kernel))), kc_MO_sender, ki_MO_sender, by decide +kernel, by decide +kernel⟩, kn_MO_sender, kv_MO_sender, ⟨_, _, rfl⟩, by unfold nPar; decide +kernel⟩
theorem v_LW_92 : VC "SeptetCentreLaw" 92 M_MO_state 8 1 := ⟨⟨Or.inl (tb5 _ (List.mem_of_getElem? (i := 97) (by decide +kernel))), kc_MO_state, ki_MO_state, by decide +kernel, by decide +kernel⟩, kn_MO_state, kv_MO_state, ⟨_, _, rfl⟩, by unfold nPar; decide +kernel⟩
theorem v_LW_96 : VC "SeptetCentreLaw" 96 M_MO_offers 8 1 := ⟨⟨Or.inl (tb5 _ (List.mem_of_getElem? (i := 101) (by decide +kernel))), kc_MO_offers, ki_MO_offers, by decide +kernel, by decide +kernel⟩, kn_MO_offers, kv_MO_offers, ⟨_, _, rfl⟩, by unfold nPar; decide +kernel⟩
theorem v_LW_100 : VC "SeptetCentreLaw" 100 M_MO_time 8 0 := ⟨⟨Or.inl (tb5 _ (List.mem_of_getElem? (i := 105) (by decide +kernel))), kc_MO_time, ki_MO_time, by decide +kernel, by decide +kernel⟩, kn_MO_time, kv_MO_time, ⟨_, _, rfl⟩, by unfold nPar; decide +kernel⟩
theorem v_SC_26 : ICi "SeptetCentre" 26 M_Dr_init 0 := ⟨⟨Or.inr ⟨"SeptetCentre", tb1 _ (List.mem_of_getElem? (i := 73) (by decide +kernel))⟩, kc_Dr_init, ki_Dr_init, by decide +kernel, by decide +kernel⟩, kn_Dr_init, rfl, rfl, by unfold nPar; decide +kernel⟩
theorem v_SC_41 : ICi "SeptetCentre" 41 M_De_init 0 := ⟨⟨Or.inr ⟨"SeptetCentre", tb1 _ (List.mem_of_getElem? (i := 89) (by decide +kernel))⟩, kc_De_init, ki_De_init, by decide +kernel, by decide +kernel⟩, kn_De_init, rfl, rfl, by unfold nPar; decide +kernel⟩
/-! fields -/
theorem f_AL_39 : Cond.fieldLink "java/util/ArrayList" 39 "java/util/ArrayList" "DEFAULTCAPACITY_EMPTY_ELEMENTDATA" "[Ljava/lang/Object;" ∈ lw_tbl := tb1 _ (List.mem_of_getElem? (i := 50) (by decide +kernel))
theorem f_AL_9 : FL "java/util/ArrayList" 9 2 0 "[Ljava/lang/Object;" := ⟨_, "java/util/ArrayList", rfl, by decide, rfl, Or.inl rfl, Or.inl (tb1 _ (List.mem_of_getElem? (i := 52) (by decide +kernel)))⟩
theorem f_AL_48 : FL "java/util/ArrayList" 48 2 1 "I" := ⟨_, "java/util/ArrayList", rfl, by decide, rfl, Or.inl rfl, Or.inl (tb1 _ (List.mem_of_getElem? (i := 53) (by decide +kernel)))⟩
theorem f_AbL_7 : FL "java/util/AbstractList" 7 2 2 "I" := ⟨_, "java/util/AbstractList", rfl, by decide, rfl, Or.inl rfl, Or.inl (tb1 _ (List.mem_of_getElem? (i := 54) (by decide +kernel)))⟩
theorem f_AL_63 : FL "java/util/ArrayList" 63 2 2 "I" := ⟨_, "java/util/ArrayList", rfl, by decide, rfl, Or.inr (tb1 _ (List.mem_of_getElem? (i := 56) (by decide +kernel))), Or.inl (tb1 _ (List.mem_of_getElem? (i := 55) (by decide +kernel)))⟩
theorem f_Li_10 : FL "SeptetCentre$Line" 10 1 0 "Ljava/util/ArrayList;" := ⟨_, "SeptetCentre$Line", rfl, by decide, rfl, Or.inl rfl, Or.inl (tb1 _ (List.mem_of_getElem? (i := 64) (by decide +kernel)))⟩
theorem f_Li_16 : FL "SeptetCentre$Line" 16 1 1 "I" := ⟨_, "SeptetCentre$Line", rfl, by decide, rfl, Or.inl rfl, Or.inl (tb1 _ (List.mem_of_getElem? (i := 65) (by decide +kernel)))⟩
theorem f_Dr_9 : FL "SeptetCentre$Draft" 9 3 0 "[I" := ⟨_, "SeptetCentre$Draft", rfl, by decide, rfl, Or.inl rfl, Or.inl (tb1 _ (List.mem_of_getElem? (i := 77) (by decide +kernel)))⟩
theorem f_Dr_13 : FL "SeptetCentre$Draft" 13 3 1 "I" := ⟨_, "SeptetCentre$Draft", rfl, by decide, rfl, Or.inl rfl, Or.inl (tb1 _ (List.mem_of_getElem? (i := 78) (by decide +kernel)))⟩
theorem f_SC_72 : FL "SeptetCentre" 72 3 1 "I" := ⟨_, "SeptetCentre$Draft", rfl, by decide, rfl, Or.inl rfl, Or.inl (tb1 _ (List.mem_of_getElem? (i := 79) (by decide +kernel)))⟩
theorem f_Me_26 : FL "SeptetCentre$Message" 26 4 0 "J" := ⟨_, "SeptetCentre$Device", rfl, by decide, rfl, Or.inl rfl, Or.inl (tb1 _ (List.mem_of_getElem? (i := 97) (by decide +kernel)))⟩
theorem f_SC_50 : FL "SeptetCentre" 50 4 0 "J" := ⟨_, "SeptetCentre$Device", rfl, by decide, rfl, Or.inl rfl, Or.inl (tb1 _ (List.mem_of_getElem? (i := 98) (by decide +kernel)))⟩
theorem f_SC_54 : FL "SeptetCentre" 54 4 1 "Z" := ⟨_, "SeptetCentre$Device", rfl, by decide, rfl, Or.inl rfl, Or.inl (tb1 _ (List.mem_of_getElem? (i := 99) (by decide +kernel)))⟩
theorem f_De_14 : FL "SeptetCentre$Device" 14 4 2 "LSeptetCentre$Line;" := ⟨_, "SeptetCentre$Device", rfl, by decide, rfl, Or.inl rfl, Or.inl (tb1 _ (List.mem_of_getElem? (i := 100) (by decide +kernel)))⟩
theorem f_SC_160 : FL "SeptetCentre" 160 4 2 "LSeptetCentre$Line;" := ⟨_, "SeptetCentre$Device", rfl, by decide, rfl, Or.inl rfl, Or.inl (tb1 _ (List.mem_of_getElem? (i := 101) (by decide +kernel)))⟩
theorem f_De_18 : FL "SeptetCentre$Device" 18 4 3 "LSeptetCentre$Line;" := ⟨_, "SeptetCentre$Device", rfl, by decide, rfl, Or.inl rfl, Or.inl (tb1 _ (List.mem_of_getElem? (i := 102) (by decide +kernel)))⟩
theorem f_Me_100 : FL "SeptetCentre$Message" 100 4 3 "LSeptetCentre$Line;" := ⟨_, "SeptetCentre$Device", rfl, by decide, rfl, Or.inl rfl, Or.inl (tb1 _ (List.mem_of_getElem? (i := 103) (by decide +kernel)))⟩
theorem f_SC_173 : FL "SeptetCentre" 173 4 3 "LSeptetCentre$Line;" := ⟨_, "SeptetCentre$Device", rfl, by decide, rfl, Or.inl rfl, Or.inl (tb1 _ (List.mem_of_getElem? (i := 104) (by decide +kernel)))⟩
theorem f_De_36 : FL "SeptetCentre$Device" 36 4 4 "I" := ⟨_, "SeptetCentre$Device", rfl, by decide, rfl, Or.inl rfl, Or.inl (tb1 _ (List.mem_of_getElem? (i := 105) (by decide +kernel)))⟩
theorem f_SC_228 : FL "SeptetCentre" 228 4 4 "I" := ⟨_, "SeptetCentre$Device", rfl, by decide, rfl, Or.inl rfl, Or.inl (tb1 _ (List.mem_of_getElem? (i := 106) (by decide +kernel)))⟩
theorem f_De_32 : FL "SeptetCentre$Device" 32 4 5 "I" := ⟨_, "SeptetCentre$Device", rfl, by decide, rfl, Or.inl rfl, Or.inl (tb1 _ (List.mem_of_getElem? (i := 107) (by decide +kernel)))⟩
theorem f_De_24 : FL "SeptetCentre$Device" 24 4 6 "Ljava/util/ArrayList;" := ⟨_, "SeptetCentre$Device", rfl, by decide, rfl, Or.inl rfl, Or.inl (tb1 _ (List.mem_of_getElem? (i := 108) (by decide +kernel)))⟩
theorem f_De_28 : FL "SeptetCentre$Device" 28 4 7 "[I" := ⟨_, "SeptetCentre$Device", rfl, by decide, rfl, Or.inl rfl, Or.inl (tb1 _ (List.mem_of_getElem? (i := 109) (by decide +kernel)))⟩
theorem f_SC_189 : FL "SeptetCentre" 189 4 7 "[I" := ⟨_, "SeptetCentre$Device", rfl, by decide, rfl, Or.inl rfl, Or.inl (tb1 _ (List.mem_of_getElem? (i := 110) (by decide +kernel)))⟩
theorem f_De_57 : FL "SeptetCentre$Device" 57 4 8 "I" := ⟨_, "SeptetCentre$Device", rfl, by decide, rfl, Or.inl rfl, Or.inl (tb1 _ (List.mem_of_getElem? (i := 111) (by decide +kernel)))⟩
theorem f_SC_186 : FL "SeptetCentre" 186 4 8 "I" := ⟨_, "SeptetCentre$Device", rfl, by decide, rfl, Or.inl rfl, Or.inl (tb1 _ (List.mem_of_getElem? (i := 112) (by decide +kernel)))⟩
theorem f_De_60 : FL "SeptetCentre$Device" 60 4 9 "J" := ⟨_, "SeptetCentre$Device", rfl, by decide, rfl, Or.inl rfl, Or.inl (tb1 _ (List.mem_of_getElem? (i := 113) (by decide +kernel)))⟩
theorem f_SC_193 : FL "SeptetCentre" 193 4 9 "J" := ⟨_, "SeptetCentre$Device", rfl, by decide, rfl, Or.inl rfl, Or.inl (tb1 _ (List.mem_of_getElem? (i := 114) (by decide +kernel)))⟩
theorem f_SC_11 : FL "SeptetCentre" 11 0 0 "[LSeptetCentre$Device;" := ⟨_, "SeptetCentre", rfl, by decide, rfl, Or.inl rfl, Or.inl (tb1 _ (List.mem_of_getElem? (i := 136) (by decide +kernel)))⟩
theorem f_SC_20 : FL "SeptetCentre" 20 0 1 "LSeptetCentre$Line;" := ⟨_, "SeptetCentre", rfl, by decide, rfl, Or.inl rfl, Or.inl (tb1 _ (List.mem_of_getElem? (i := 137) (by decide +kernel)))⟩
theorem f_SC_27 : FL "SeptetCentre" 27 0 2 "LSeptetCentre$Draft;" := ⟨_, "SeptetCentre", rfl, by decide, rfl, Or.inl rfl, Or.inl (tb1 _ (List.mem_of_getElem? (i := 138) (by decide +kernel)))⟩
theorem f_SC_34 : FL "SeptetCentre" 34 0 3 "Ljava/util/ArrayList;" := ⟨_, "SeptetCentre", rfl, by decide, rfl, Or.inl rfl, Or.inl (tb1 _ (List.mem_of_getElem? (i := 139) (by decide +kernel)))⟩
theorem f_SC_38 : FL "SeptetCentre" 38 0 4 "Ljava/util/ArrayList;" := ⟨_, "SeptetCentre", rfl, by decide, rfl, Or.inl rfl, Or.inl (tb1 _ (List.mem_of_getElem? (i := 140) (by decide +kernel)))⟩
theorem f_SC_119 : FL "SeptetCentre" 119 0 5 "I" := ⟨_, "SeptetCentre", rfl, by decide, rfl, Or.inl rfl, Or.inl (tb1 _ (List.mem_of_getElem? (i := 141) (by decide +kernel)))⟩
theorem f_Al_7 : Cond.fieldLink "SeptetCentre$Alphabet" 7 "SeptetCentre$Alphabet" "CHARACTERS" "[I" ∈ lw_tbl := tb1 _ (List.mem_of_getElem? (i := 182) (by decide +kernel))
theorem f_Al_13 : Cond.fieldLink "SeptetCentre$Alphabet" 13 "SeptetCentre$Alphabet" "SECOND_CODES" "[I" ∈ lw_tbl := tb1 _ (List.mem_of_getElem? (i := 184) (by decide +kernel))
theorem f_Al_16 : Cond.fieldLink "SeptetCentre$Alphabet" 16 "SeptetCentre$Alphabet" "SECOND_CHARACTERS" "[I" ∈ lw_tbl := tb1 _ (List.mem_of_getElem? (i := 186) (by decide +kernel))
theorem f_Ro_7 : FL "SeptetCentre$Row" 7 5 0 "[I" := ⟨_, "SeptetCentre$Row", rfl, by decide, rfl, Or.inl rfl, Or.inl (tb2 _ (List.mem_of_getElem? (i := 11) (by decide +kernel)))⟩
theorem f_Ro_34 : FL "SeptetCentre$Row" 34 5 1 "I" := ⟨_, "SeptetCentre$Row", rfl, by decide, rfl, Or.inl rfl, Or.inl (tb2 _ (List.mem_of_getElem? (i := 12) (by decide +kernel)))⟩
theorem f_Ro_13 : FL "SeptetCentre$Row" 13 5 2 "LSeptetCentre$Device;" := ⟨_, "SeptetCentre$Row", rfl, by decide, rfl, Or.inl rfl, Or.inl (tb2 _ (List.mem_of_getElem? (i := 13) (by decide +kernel)))⟩
theorem f_SC_107 : FL "SeptetCentre" 107 5 2 "LSeptetCentre$Device;" := ⟨_, "SeptetCentre$Row", rfl, by decide, rfl, Or.inl rfl, Or.inl (tb2 _ (List.mem_of_getElem? (i := 14) (by decide +kernel)))⟩
theorem f_Me_7 : Cond.fieldLink "SeptetCentre$Message" 7 "SeptetCentre$Fate" "WAITS" "LSeptetCentre$Fate;" ∈ lw_tbl := tb2 _ (List.mem_of_getElem? (i := 235) (by decide +kernel))
theorem f_Me_18 : FL "SeptetCentre$Message" 18 6 0 "LSeptetCentre$Row;" := ⟨_, "SeptetCentre$Message", rfl, by decide, rfl, Or.inl rfl, Or.inl (tb3 _ (List.mem_of_getElem? (i := 4) (by decide +kernel)))⟩
theorem f_Me_22 : FL "SeptetCentre$Message" 22 6 1 "LSeptetCentre$Device;" := ⟨_, "SeptetCentre$Message", rfl, by decide, rfl, Or.inl rfl, Or.inl (tb3 _ (List.mem_of_getElem? (i := 5) (by decide +kernel)))⟩
theorem f_Me_32 : FL "SeptetCentre$Message" 32 6 2 "J" := ⟨_, "SeptetCentre$Message", rfl, by decide, rfl, Or.inl rfl, Or.inl (tb3 _ (List.mem_of_getElem? (i := 6) (by decide +kernel)))⟩
theorem f_Me_35 : FL "SeptetCentre$Message" 35 6 3 "I" := ⟨_, "SeptetCentre$Message", rfl, by decide, rfl, Or.inl rfl, Or.inl (tb3 _ (List.mem_of_getElem? (i := 7) (by decide +kernel)))⟩
theorem f_Me_39 : FL "SeptetCentre$Message" 39 6 4 "I" := ⟨_, "SeptetCentre$Message", rfl, by decide, rfl, Or.inl rfl, Or.inl (tb3 _ (List.mem_of_getElem? (i := 8) (by decide +kernel)))⟩
theorem f_Me_48 : FL "SeptetCentre$Message" 48 6 5 "J" := ⟨_, "SeptetCentre$Message", rfl, by decide, rfl, Or.inl rfl, Or.inl (tb3 _ (List.mem_of_getElem? (i := 9) (by decide +kernel)))⟩
theorem f_SC_248 : FL "SeptetCentre" 248 6 5 "J" := ⟨_, "SeptetCentre$Message", rfl, by decide, rfl, Or.inl rfl, Or.inl (tb3 _ (List.mem_of_getElem? (i := 10) (by decide +kernel)))⟩
theorem f_Me_59 : FL "SeptetCentre$Message" 59 6 6 "I" := ⟨_, "SeptetCentre$Message", rfl, by decide, rfl, Or.inl rfl, Or.inl (tb3 _ (List.mem_of_getElem? (i := 11) (by decide +kernel)))⟩
theorem f_SC_242 : FL "SeptetCentre" 242 6 6 "I" := ⟨_, "SeptetCentre$Message", rfl, by decide, rfl, Or.inl rfl, Or.inl (tb3 _ (List.mem_of_getElem? (i := 12) (by decide +kernel)))⟩
theorem f_Me_68 : FL "SeptetCentre$Message" 68 6 7 "I" := ⟨_, "SeptetCentre$Message", rfl, by decide, rfl, Or.inl rfl, Or.inl (tb3 _ (List.mem_of_getElem? (i := 13) (by decide +kernel)))⟩
theorem f_SC_199 : FL "SeptetCentre" 199 6 7 "I" := ⟨_, "SeptetCentre$Message", rfl, by decide, rfl, Or.inl rfl, Or.inl (tb3 _ (List.mem_of_getElem? (i := 14) (by decide +kernel)))⟩
theorem f_Me_13 : FL "SeptetCentre$Message" 13 6 8 "LSeptetCentre$Fate;" := ⟨_, "SeptetCentre$Message", rfl, by decide, rfl, Or.inl rfl, Or.inl (tb3 _ (List.mem_of_getElem? (i := 15) (by decide +kernel)))⟩
theorem f_SC_145 : FL "SeptetCentre" 145 6 8 "LSeptetCentre$Fate;" := ⟨_, "SeptetCentre$Message", rfl, by decide, rfl, Or.inl rfl, Or.inl (tb3 _ (List.mem_of_getElem? (i := 16) (by decide +kernel)))⟩
theorem f_SC_245 : Cond.fieldLink "SeptetCentre" 245 "SeptetCentre$Fate" "TOO_OLD" "LSeptetCentre$Fate;" ∈ lw_tbl := tb3 _ (List.mem_of_getElem? (i := 57) (by decide +kernel))
theorem f_SC_255 : Cond.fieldLink "SeptetCentre" 255 "SeptetCentre$Fate" "UNKNOWN" "LSeptetCentre$Fate;" ∈ lw_tbl := tb3 _ (List.mem_of_getElem? (i := 63) (by decide +kernel))
theorem f_SC_261 : Cond.fieldLink "SeptetCentre" 261 "SeptetCentre$Fate" "TAKEN" "LSeptetCentre$Fate;" ∈ lw_tbl := tb3 _ (List.mem_of_getElem? (i := 87) (by decide +kernel))
theorem f_SC_149 : Cond.fieldLink "SeptetCentre" 149 "SeptetCentre$Fate" "WAITS" "LSeptetCentre$Fate;" ∈ lw_tbl := tb3 _ (List.mem_of_getElem? (i := 93) (by decide +kernel))
theorem f_Pi_7 : FL "SeptetCentre$Pile" 7 7 0 "J" := ⟨_, "SeptetCentre$Pile", rfl, by decide, rfl, Or.inl rfl, Or.inl (tb3 _ (List.mem_of_getElem? (i := 142) (by decide +kernel)))⟩
theorem f_Pi_13 : FL "SeptetCentre$Pile" 13 7 1 "I" := ⟨_, "SeptetCentre$Pile", rfl, by decide, rfl, Or.inl rfl, Or.inl (tb3 _ (List.mem_of_getElem? (i := 143) (by decide +kernel)))⟩
theorem f_Pi_19 : FL "SeptetCentre$Pile" 19 7 2 "[LSeptetCentre$Row;" := ⟨_, "SeptetCentre$Pile", rfl, by decide, rfl, Or.inl rfl, Or.inl (tb3 _ (List.mem_of_getElem? (i := 144) (by decide +kernel)))⟩
theorem f_Pi_23 : FL "SeptetCentre$Pile" 23 7 3 "I" := ⟨_, "SeptetCentre$Pile", rfl, by decide, rfl, Or.inl rfl, Or.inl (tb3 _ (List.mem_of_getElem? (i := 145) (by decide +kernel)))⟩
theorem f_MO_195 : FL "SeptetCentreModel" 195 8 0 "I" := ⟨_, "SeptetCentreModel", rfl, by decide, rfl, Or.inl rfl, Or.inl (tb4 _ (List.mem_of_getElem? (i := 4) (by decide +kernel)))⟩
theorem f_MO_7 : FL "SeptetCentreModel" 7 8 1 "[I" := ⟨_, "SeptetCentreModel", rfl, by decide, rfl, Or.inl rfl, Or.inl (tb4 _ (List.mem_of_getElem? (i := 5) (by decide +kernel)))⟩
theorem f_MO_124 : FL "SeptetCentreModel" 124 8 2 "I" := ⟨_, "SeptetCentreModel", rfl, by decide, rfl, Or.inl rfl, Or.inl (tb4 _ (List.mem_of_getElem? (i := 6) (by decide +kernel)))⟩
theorem f_MO_13 : FL "SeptetCentreModel" 13 8 3 "[I" := ⟨_, "SeptetCentreModel", rfl, by decide, rfl, Or.inl rfl, Or.inl (tb4 _ (List.mem_of_getElem? (i := 7) (by decide +kernel)))⟩
theorem f_MO_16 : FL "SeptetCentreModel" 16 8 4 "[J" := ⟨_, "SeptetCentreModel", rfl, by decide, rfl, Or.inl rfl, Or.inl (tb4 _ (List.mem_of_getElem? (i := 8) (by decide +kernel)))⟩
theorem f_MO_20 : FL "SeptetCentreModel" 20 8 5 "[Z" := ⟨_, "SeptetCentreModel", rfl, by decide, rfl, Or.inl rfl, Or.inl (tb4 _ (List.mem_of_getElem? (i := 9) (by decide +kernel)))⟩
theorem f_MO_24 : FL "SeptetCentreModel" 24 8 6 "[I" := ⟨_, "SeptetCentreModel", rfl, by decide, rfl, Or.inl rfl, Or.inl (tb4 _ (List.mem_of_getElem? (i := 10) (by decide +kernel)))⟩
theorem f_MO_27 : FL "SeptetCentreModel" 27 8 7 "[I" := ⟨_, "SeptetCentreModel", rfl, by decide, rfl, Or.inl rfl, Or.inl (tb4 _ (List.mem_of_getElem? (i := 11) (by decide +kernel)))⟩
theorem f_MO_30 : FL "SeptetCentreModel" 30 8 8 "[I" := ⟨_, "SeptetCentreModel", rfl, by decide, rfl, Or.inl rfl, Or.inl (tb4 _ (List.mem_of_getElem? (i := 12) (by decide +kernel)))⟩
theorem f_MO_33 : FL "SeptetCentreModel" 33 8 9 "[I" := ⟨_, "SeptetCentreModel", rfl, by decide, rfl, Or.inl rfl, Or.inl (tb4 _ (List.mem_of_getElem? (i := 13) (by decide +kernel)))⟩
theorem f_MO_36 : FL "SeptetCentreModel" 36 8 10 "[J" := ⟨_, "SeptetCentreModel", rfl, by decide, rfl, Or.inl rfl, Or.inl (tb4 _ (List.mem_of_getElem? (i := 14) (by decide +kernel)))⟩
theorem f_MO_131 : FL "SeptetCentreModel" 131 8 11 "I" := ⟨_, "SeptetCentreModel", rfl, by decide, rfl, Or.inl rfl, Or.inl (tb4 _ (List.mem_of_getElem? (i := 15) (by decide +kernel)))⟩
theorem f_MO_39 : FL "SeptetCentreModel" 39 8 12 "[I" := ⟨_, "SeptetCentreModel", rfl, by decide, rfl, Or.inl rfl, Or.inl (tb4 _ (List.mem_of_getElem? (i := 16) (by decide +kernel)))⟩
theorem f_MO_42 : FL "SeptetCentreModel" 42 8 13 "[I" := ⟨_, "SeptetCentreModel", rfl, by decide, rfl, Or.inl rfl, Or.inl (tb4 _ (List.mem_of_getElem? (i := 17) (by decide +kernel)))⟩
theorem f_MO_45 : FL "SeptetCentreModel" 45 8 14 "[I" := ⟨_, "SeptetCentreModel", rfl, by decide, rfl, Or.inl rfl, Or.inl (tb4 _ (List.mem_of_getElem? (i := 18) (by decide +kernel)))⟩
theorem f_MO_48 : FL "SeptetCentreModel" 48 8 15 "[I" := ⟨_, "SeptetCentreModel", rfl, by decide, rfl, Or.inl rfl, Or.inl (tb4 _ (List.mem_of_getElem? (i := 19) (by decide +kernel)))⟩
theorem f_MO_51 : FL "SeptetCentreModel" 51 8 16 "[I" := ⟨_, "SeptetCentreModel", rfl, by decide, rfl, Or.inl rfl, Or.inl (tb4 _ (List.mem_of_getElem? (i := 20) (by decide +kernel)))⟩
theorem f_MO_214 : FL "SeptetCentreModel" 214 8 17 "I" := ⟨_, "SeptetCentreModel", rfl, by decide, rfl, Or.inl rfl, Or.inl (tb4 _ (List.mem_of_getElem? (i := 21) (by decide +kernel)))⟩
theorem f_MO_211 : FL "SeptetCentreModel" 211 8 18 "I" := ⟨_, "SeptetCentreModel", rfl, by decide, rfl, Or.inl rfl, Or.inl (tb4 _ (List.mem_of_getElem? (i := 22) (by decide +kernel)))⟩
theorem f_MO_226 : FL "SeptetCentreModel" 226 8 19 "I" := ⟨_, "SeptetCentreModel", rfl, by decide, rfl, Or.inl rfl, Or.inl (tb4 _ (List.mem_of_getElem? (i := 23) (by decide +kernel)))⟩
theorem f_MO_54 : FL "SeptetCentreModel" 54 8 20 "[I" := ⟨_, "SeptetCentreModel", rfl, by decide, rfl, Or.inl rfl, Or.inl (tb4 _ (List.mem_of_getElem? (i := 24) (by decide +kernel)))⟩
theorem f_MO_57 : FL "SeptetCentreModel" 57 8 21 "[I" := ⟨_, "SeptetCentreModel", rfl, by decide, rfl, Or.inl rfl, Or.inl (tb4 _ (List.mem_of_getElem? (i := 25) (by decide +kernel)))⟩
theorem f_MO_60 : FL "SeptetCentreModel" 60 8 22 "[J" := ⟨_, "SeptetCentreModel", rfl, by decide, rfl, Or.inl rfl, Or.inl (tb4 _ (List.mem_of_getElem? (i := 26) (by decide +kernel)))⟩
theorem f_MO_63 : FL "SeptetCentreModel" 63 8 23 "[J" := ⟨_, "SeptetCentreModel", rfl, by decide, rfl, Or.inl rfl, Or.inl (tb4 _ (List.mem_of_getElem? (i := 27) (by decide +kernel)))⟩
theorem f_MO_66 : FL "SeptetCentreModel" 66 8 24 "[Z" := ⟨_, "SeptetCentreModel", rfl, by decide, rfl, Or.inl rfl, Or.inl (tb4 _ (List.mem_of_getElem? (i := 28) (by decide +kernel)))⟩
theorem f_MO_69 : FL "SeptetCentreModel" 69 8 25 "[Z" := ⟨_, "SeptetCentreModel", rfl, by decide, rfl, Or.inl rfl, Or.inl (tb4 _ (List.mem_of_getElem? (i := 29) (by decide +kernel)))⟩
theorem f_MO_72 : FL "SeptetCentreModel" 72 8 26 "[I" := ⟨_, "SeptetCentreModel", rfl, by decide, rfl, Or.inl rfl, Or.inl (tb4 _ (List.mem_of_getElem? (i := 30) (by decide +kernel)))⟩
theorem f_MO_75 : FL "SeptetCentreModel" 75 8 27 "[I" := ⟨_, "SeptetCentreModel", rfl, by decide, rfl, Or.inl rfl, Or.inl (tb4 _ (List.mem_of_getElem? (i := 31) (by decide +kernel)))⟩
theorem f_MO_78 : FL "SeptetCentreModel" 78 8 28 "[I" := ⟨_, "SeptetCentreModel", rfl, by decide, rfl, Or.inl rfl, Or.inl (tb4 _ (List.mem_of_getElem? (i := 32) (by decide +kernel)))⟩
theorem f_MO_81 : FL "SeptetCentreModel" 81 8 29 "[I" := ⟨_, "SeptetCentreModel", rfl, by decide, rfl, Or.inl rfl, Or.inl (tb4 _ (List.mem_of_getElem? (i := 33) (by decide +kernel)))⟩
theorem f_MO_84 : FL "SeptetCentreModel" 84 8 30 "[I" := ⟨_, "SeptetCentreModel", rfl, by decide, rfl, Or.inl rfl, Or.inl (tb4 _ (List.mem_of_getElem? (i := 34) (by decide +kernel)))⟩
theorem f_MO_87 : FL "SeptetCentreModel" 87 8 31 "[I" := ⟨_, "SeptetCentreModel", rfl, by decide, rfl, Or.inl rfl, Or.inl (tb4 _ (List.mem_of_getElem? (i := 35) (by decide +kernel)))⟩
theorem f_MO_90 : FL "SeptetCentreModel" 90 8 32 "[Z" := ⟨_, "SeptetCentreModel", rfl, by decide, rfl, Or.inl rfl, Or.inl (tb4 _ (List.mem_of_getElem? (i := 36) (by decide +kernel)))⟩
theorem f_MO_93 : FL "SeptetCentreModel" 93 8 33 "[I" := ⟨_, "SeptetCentreModel", rfl, by decide, rfl, Or.inl rfl, Or.inl (tb4 _ (List.mem_of_getElem? (i := 37) (by decide +kernel)))⟩
theorem f_MO_96 : FL "SeptetCentreModel" 96 8 34 "[I" := ⟨_, "SeptetCentreModel", rfl, by decide, rfl, Or.inl rfl, Or.inl (tb4 _ (List.mem_of_getElem? (i := 38) (by decide +kernel)))⟩
theorem f_MO_99 : FL "SeptetCentreModel" 99 8 35 "[J" := ⟨_, "SeptetCentreModel", rfl, by decide, rfl, Or.inl rfl, Or.inl (tb4 _ (List.mem_of_getElem? (i := 39) (by decide +kernel)))⟩
theorem f_MO_102 : FL "SeptetCentreModel" 102 8 36 "[I" := ⟨_, "SeptetCentreModel", rfl, by decide, rfl, Or.inl rfl, Or.inl (tb4 _ (List.mem_of_getElem? (i := 40) (by decide +kernel)))⟩
theorem f_MO_105 : FL "SeptetCentreModel" 105 8 37 "[I" := ⟨_, "SeptetCentreModel", rfl, by decide, rfl, Or.inl rfl, Or.inl (tb4 _ (List.mem_of_getElem? (i := 41) (by decide +kernel)))⟩
theorem f_MO_108 : FL "SeptetCentreModel" 108 8 38 "[I" := ⟨_, "SeptetCentreModel", rfl, by decide, rfl, Or.inl rfl, Or.inl (tb4 _ (List.mem_of_getElem? (i := 42) (by decide +kernel)))⟩
theorem f_MO_111 : FL "SeptetCentreModel" 111 8 39 "[I" := ⟨_, "SeptetCentreModel", rfl, by decide, rfl, Or.inl rfl, Or.inl (tb4 _ (List.mem_of_getElem? (i := 43) (by decide +kernel)))⟩
theorem f_MO_114 : FL "SeptetCentreModel" 114 8 40 "[I" := ⟨_, "SeptetCentreModel", rfl, by decide, rfl, Or.inl rfl, Or.inl (tb4 _ (List.mem_of_getElem? (i := 44) (by decide +kernel)))⟩
theorem f_Me_113 : Cond.fieldLink "SeptetCentre$Message" 113 "SeptetCentre$Fate" "reported" "I" ∈ lw_tbl := tb5 _ (List.mem_of_getElem? (i := 125) (by decide +kernel))
theorem f_SC_196 : Cond.fieldLink "SeptetCentre" 196 "SeptetCentre$Fate" "answer" "I" ∈ lw_tbl := tb5 _ (List.mem_of_getElem? (i := 126) (by decide +kernel))
theorem fo_0_5 (M : MM) : FinOk M 0 5 := ⟨_, rfl, Or.inl rfl⟩
theorem fo_2_0 (M : MM) : FinOk M 2 0 := ⟨_, rfl, Or.inl rfl⟩
theorem fo_2_1 (M : MM) : FinOk M 2 1 := ⟨_, rfl, Or.inl rfl⟩
theorem fo_2_2 (M : MM) : FinOk M 2 2 := ⟨_, rfl, Or.inl rfl⟩
theorem fo_3_1 (M : MM) : FinOk M 3 1 := ⟨_, rfl, Or.inl rfl⟩
theorem fo_4_0 (M : MM) : FinOk M 4 0 := ⟨_, rfl, Or.inl rfl⟩
theorem fo_4_1 (M : MM) : FinOk M 4 1 := ⟨_, rfl, Or.inl rfl⟩
theorem fo_4_4 (M : MM) : FinOk M 4 4 := ⟨_, rfl, Or.inl rfl⟩
theorem fo_4_5 (M : MM) : FinOk M 4 5 := ⟨_, rfl, Or.inl rfl⟩
theorem fo_4_8 (M : MM) : FinOk M 4 8 := ⟨_, rfl, Or.inl rfl⟩
theorem fo_4_9 (M : MM) : FinOk M 4 9 := ⟨_, rfl, Or.inl rfl⟩
theorem fo_5_1 (M : MM) : FinOk M 5 1 := ⟨_, rfl, Or.inl rfl⟩
theorem fo_6_4 (M : MM) : FinOk M 6 4 := ⟨_, rfl, Or.inl rfl⟩
theorem fo_6_7 (M : MM) : FinOk M 6 7 := ⟨_, rfl, Or.inl rfl⟩
theorem fo_6_8 (M : MM) : FinOk M 6 8 := ⟨_, rfl, Or.inl rfl⟩
theorem fo_7_3 (M : MM) : FinOk M 7 3 := ⟨_, rfl, Or.inl rfl⟩
theorem fo_8_0 (M : MM) : FinOk M 8 0 := ⟨_, rfl, Or.inl rfl⟩
theorem fo_8_1 (M : MM) : FinOk M 8 1 := ⟨_, rfl, Or.inl rfl⟩
theorem fo_8_2 (M : MM) : FinOk M 8 2 := ⟨_, rfl, Or.inl rfl⟩
theorem fo_8_3 (M : MM) : FinOk M 8 3 := ⟨_, rfl, Or.inl rfl⟩
theorem fo_8_4 (M : MM) : FinOk M 8 4 := ⟨_, rfl, Or.inl rfl⟩
theorem fo_8_5 (M : MM) : FinOk M 8 5 := ⟨_, rfl, Or.inl rfl⟩
theorem fo_8_6 (M : MM) : FinOk M 8 6 := ⟨_, rfl, Or.inl rfl⟩
theorem fo_8_7 (M : MM) : FinOk M 8 7 := ⟨_, rfl, Or.inl rfl⟩
theorem fo_8_8 (M : MM) : FinOk M 8 8 := ⟨_, rfl, Or.inl rfl⟩
theorem fo_8_9 (M : MM) : FinOk M 8 9 := ⟨_, rfl, Or.inl rfl⟩
theorem fo_8_10 (M : MM) : FinOk M 8 10 := ⟨_, rfl, Or.inl rfl⟩
theorem fo_8_11 (M : MM) : FinOk M 8 11 := ⟨_, rfl, Or.inl rfl⟩
theorem fo_8_12 (M : MM) : FinOk M 8 12 := ⟨_, rfl, Or.inl rfl⟩
theorem fo_8_13 (M : MM) : FinOk M 8 13 := ⟨_, rfl, Or.inl rfl⟩
theorem fo_8_14 (M : MM) : FinOk M 8 14 := ⟨_, rfl, Or.inl rfl⟩
theorem fo_8_15 (M : MM) : FinOk M 8 15 := ⟨_, rfl, Or.inl rfl⟩
theorem fo_8_16 (M : MM) : FinOk M 8 16 := ⟨_, rfl, Or.inl rfl⟩
theorem fo_8_17 (M : MM) : FinOk M 8 17 := ⟨_, rfl, Or.inl rfl⟩
theorem fo_8_18 (M : MM) : FinOk M 8 18 := ⟨_, rfl, Or.inl rfl⟩
theorem fo_8_19 (M : MM) : FinOk M 8 19 := ⟨_, rfl, Or.inl rfl⟩
theorem fo_8_20 (M : MM) : FinOk M 8 20 := ⟨_, rfl, Or.inl rfl⟩
theorem fo_8_21 (M : MM) : FinOk M 8 21 := ⟨_, rfl, Or.inl rfl⟩
theorem fo_8_22 (M : MM) : FinOk M 8 22 := ⟨_, rfl, Or.inl rfl⟩
theorem fo_8_23 (M : MM) : FinOk M 8 23 := ⟨_, rfl, Or.inl rfl⟩
theorem fo_8_24 (M : MM) : FinOk M 8 24 := ⟨_, rfl, Or.inl rfl⟩
theorem fo_8_25 (M : MM) : FinOk M 8 25 := ⟨_, rfl, Or.inl rfl⟩
theorem fo_8_26 (M : MM) : FinOk M 8 26 := ⟨_, rfl, Or.inl rfl⟩
theorem fo_8_27 (M : MM) : FinOk M 8 27 := ⟨_, rfl, Or.inl rfl⟩
theorem fo_8_28 (M : MM) : FinOk M 8 28 := ⟨_, rfl, Or.inl rfl⟩
theorem fo_8_29 (M : MM) : FinOk M 8 29 := ⟨_, rfl, Or.inl rfl⟩
theorem fo_8_30 (M : MM) : FinOk M 8 30 := ⟨_, rfl, Or.inl rfl⟩
theorem fo_8_31 (M : MM) : FinOk M 8 31 := ⟨_, rfl, Or.inl rfl⟩
theorem fo_8_32 (M : MM) : FinOk M 8 32 := ⟨_, rfl, Or.inl rfl⟩
theorem fo_8_33 (M : MM) : FinOk M 8 33 := ⟨_, rfl, Or.inl rfl⟩
theorem fo_8_34 (M : MM) : FinOk M 8 34 := ⟨_, rfl, Or.inl rfl⟩
theorem fo_8_35 (M : MM) : FinOk M 8 35 := ⟨_, rfl, Or.inl rfl⟩
theorem fo_8_36 (M : MM) : FinOk M 8 36 := ⟨_, rfl, Or.inl rfl⟩
theorem fo_8_37 (M : MM) : FinOk M 8 37 := ⟨_, rfl, Or.inl rfl⟩
theorem fo_8_38 (M : MM) : FinOk M 8 38 := ⟨_, rfl, Or.inl rfl⟩
theorem fo_8_39 (M : MM) : FinOk M 8 39 := ⟨_, rfl, Or.inl rfl⟩
theorem fo_8_40 (M : MM) : FinOk M 8 40 := ⟨_, rfl, Or.inl rfl⟩
/-! others -/
theorem k_AS_200 : Cond.constant "jdk/internal/util/ArraysSupport" 200 (2147483639 : Int32) ∈ lw_tbl := tb2 _ (List.mem_of_getElem? (i := 105) (by decide +kernel))
theorem k_SC_129 : Cond.constant "SeptetCentre" 129 (100000 : Int32) ∈ lw_tbl := tb3 _ (List.mem_of_getElem? (i := 41) (by decide +kernel))
theorem k_SC_130 : Cond.constant "SeptetCentre" 130 (1000000 : Int32) ∈ lw_tbl := tb3 _ (List.mem_of_getElem? (i := 42) (by decide +kernel))
theorem k_MO_246 : Cond.constant "SeptetCentreModel" 246 (100000 : Int32) ∈ lw_tbl := tb5 _ (List.mem_of_getElem? (i := 20) (by decide +kernel))
theorem k_SC_202 : Cond.constantLong "SeptetCentre" 202 (999999999999 : Int64) ∈ lw_tbl := tb1 _ (List.mem_of_getElem? (i := 166) (by decide +kernel))
theorem k_Ro_17 : Cond.constantLong "SeptetCentre$Row" 17 (10 : Int64) ∈ lw_tbl := tb2 _ (List.mem_of_getElem? (i := 0) (by decide +kernel))
theorem k_MO_185 : Cond.constantLong "SeptetCentreModel" 185 (999999999999 : Int64) ∈ lw_tbl := tb4 _ (List.mem_of_getElem? (i := 140) (by decide +kernel))
theorem k_MO_134 : Cond.constantLong "SeptetCentreModel" 134 (10 : Int64) ∈ lw_tbl := tb4 _ (List.mem_of_getElem? (i := 193) (by decide +kernel))
theorem k_LW_13 : Cond.constantLong "SeptetCentreLaw" 13 (4294967295 : Int64) ∈ lw_tbl := tb5 _ (List.mem_of_getElem? (i := 109) (by decide +kernel))
theorem k_LW_7 : Cond.classLink "SeptetCentreLaw" 7 "SeptetCentre" ∈ lw_tbl := tb1 _ (List.mem_of_getElem? (i := 22) (by decide +kernel))
theorem k_SC_9 : Cond.classLink "SeptetCentre" 9 "SeptetCentre$Device" ∈ lw_tbl := tb1 _ (List.mem_of_getElem? (i := 30) (by decide +kernel))
theorem k_SC_15 : Cond.classLink "SeptetCentre" 15 "SeptetCentre$Line" ∈ lw_tbl := tb1 _ (List.mem_of_getElem? (i := 32) (by decide +kernel))
theorem k_Li_7 : Cond.classLink "SeptetCentre$Line" 7 "java/util/ArrayList" ∈ lw_tbl := tb1 _ (List.mem_of_getElem? (i := 38) (by decide +kernel))
theorem k_SC_24 : Cond.classLink "SeptetCentre" 24 "SeptetCentre$Draft" ∈ lw_tbl := tb1 _ (List.mem_of_getElem? (i := 71) (by decide +kernel))
theorem k_SC_31 : Cond.classLink "SeptetCentre" 31 "java/util/ArrayList" ∈ lw_tbl := tb1 _ (List.mem_of_getElem? (i := 86) (by decide +kernel))
theorem k_De_7 : Cond.classLink "SeptetCentre$Device" 7 "SeptetCentre$Line" ∈ lw_tbl := tb1 _ (List.mem_of_getElem? (i := 93) (by decide +kernel))
theorem k_De_21 : Cond.classLink "SeptetCentre$Device" 21 "java/util/ArrayList" ∈ lw_tbl := tb1 _ (List.mem_of_getElem? (i := 95) (by decide +kernel))
theorem k_SC_84 : Cond.classLink "SeptetCentre" 84 "SeptetCentre$Row" ∈ lw_tbl := tb1 _ (List.mem_of_getElem? (i := 232) (by decide +kernel))
theorem k_Ar_110 : Cond.classLink "java/util/Arrays" 110 "[Ljava/lang/Object;" ∈ lw_tbl := tb2 _ (List.mem_of_getElem? (i := 129) (by decide +kernel))
theorem k_Ar_2 : Cond.classLink "java/util/Arrays" 2 "java/lang/Object" ∈ lw_tbl := tb2 _ (List.mem_of_getElem? (i := 131) (by decide +kernel))
theorem k_AL_7 : Cond.classLink "java/util/ArrayList" 7 "java/lang/Object" ∈ lw_tbl := tb2 _ (List.mem_of_getElem? (i := 139) (by decide +kernel))
theorem k_Li_36 : Cond.classLink "SeptetCentre$Line" 36 "SeptetCentre$Row" ∈ lw_tbl := tb2 _ (List.mem_of_getElem? (i := 170) (by decide +kernel))
theorem k_SC_117 : Cond.classLink "SeptetCentre" 117 "SeptetCentre$Message" ∈ lw_tbl := tb2 _ (List.mem_of_getElem? (i := 229) (by decide +kernel))
theorem k_Me_42 : Cond.classLink "SeptetCentre$Message" 42 "SeptetCentre$Row" ∈ lw_tbl := tb3 _ (List.mem_of_getElem? (i := 69) (by decide +kernel))
theorem k_De_80 : Cond.classLink "SeptetCentre$Device" 80 "SeptetCentre$Pile" ∈ lw_tbl := tb3 _ (List.mem_of_getElem? (i := 129) (by decide +kernel))
theorem k_Pi_17 : Cond.classLink "SeptetCentre$Pile" 17 "SeptetCentre$Row" ∈ lw_tbl := tb3 _ (List.mem_of_getElem? (i := 140) (by decide +kernel))
theorem k_LW_10 : Cond.classLink "SeptetCentreLaw" 10 "SeptetCentreModel" ∈ lw_tbl := tb3 _ (List.mem_of_getElem? (i := 238) (by decide +kernel))
theorem kI_0 : Cond.instantiable "SeptetCentre" 6 ∈ lw_tbl := tb1 _ (List.mem_of_getElem? (i := 23) (by decide +kernel))
theorem kJ_0 : Cond.initialized "SeptetCentre" ∈ lw_tbl := tb1 _ (List.mem_of_getElem? (i := 1) (by decide +kernel))
theorem kI_1 : Cond.instantiable "SeptetCentre$Line" 2 ∈ lw_tbl := tb1 _ (List.mem_of_getElem? (i := 33) (by decide +kernel))
theorem kJ_1 : Cond.initialized "SeptetCentre$Line" ∈ lw_tbl := tb1 _ (List.mem_of_getElem? (i := 2) (by decide +kernel))
theorem kI_2 : Cond.instantiable "java/util/ArrayList" 3 ∈ lw_tbl := tb1 _ (List.mem_of_getElem? (i := 39) (by decide +kernel))
theorem kJ_2 : Cond.initialized "java/util/ArrayList" ∈ lw_tbl := tb1 _ (List.mem_of_getElem? (i := 5) (by decide +kernel))
theorem kI_3 : Cond.instantiable "SeptetCentre$Draft" 2 ∈ lw_tbl := tb1 _ (List.mem_of_getElem? (i := 72) (by decide +kernel))
theorem kJ_3 : Cond.initialized "SeptetCentre$Draft" ∈ lw_tbl := tb1 _ (List.mem_of_getElem? (i := 6) (by decide +kernel))
theorem kI_4 : Cond.instantiable "SeptetCentre$Device" 10 ∈ lw_tbl := tb1 _ (List.mem_of_getElem? (i := 88) (by decide +kernel))
theorem kJ_4 : Cond.initialized "SeptetCentre$Device" ∈ lw_tbl := tb1 _ (List.mem_of_getElem? (i := 7) (by decide +kernel))
theorem kI_5 : Cond.instantiable "SeptetCentre$Row" 3 ∈ lw_tbl := tb1 _ (List.mem_of_getElem? (i := 233) (by decide +kernel))
theorem kJ_5 : Cond.initialized "SeptetCentre$Row" ∈ lw_tbl := tb1 _ (List.mem_of_getElem? (i := 10) (by decide +kernel))
theorem kI_6 : Cond.instantiable "SeptetCentre$Message" 9 ∈ lw_tbl := tb2 _ (List.mem_of_getElem? (i := 230) (by decide +kernel))
theorem kJ_6 : Cond.initialized "SeptetCentre$Message" ∈ lw_tbl := tb1 _ (List.mem_of_getElem? (i := 18) (by decide +kernel))
theorem kI_7 : Cond.instantiable "SeptetCentre$Pile" 4 ∈ lw_tbl := tb3 _ (List.mem_of_getElem? (i := 135) (by decide +kernel))
theorem kJ_7 : Cond.initialized "SeptetCentre$Pile" ∈ lw_tbl := tb1 _ (List.mem_of_getElem? (i := 21) (by decide +kernel))
theorem kI_8 : Cond.instantiable "SeptetCentreModel" 41 ∈ lw_tbl := tb3 _ (List.mem_of_getElem? (i := 239) (by decide +kernel))
theorem kJ_8 : Cond.initialized "SeptetCentreModel" ∈ lw_tbl := tb1 _ (List.mem_of_getElem? (i := 8) (by decide +kernel))
theorem kC_5 : Cond.castable "SeptetCentre$Row" "SeptetCentre$Row" ∈ lw_tbl := tb5 _ (List.mem_of_getElem? (i := 110) (by decide +kernel))
theorem kC_6 : Cond.castable "SeptetCentre$Message" "SeptetCentre$Message" ∈ lw_tbl := tb5 _ (List.mem_of_getElem? (i := 111) (by decide +kernel))
theorem kC_7 : Cond.castable "SeptetCentre$Pile" "SeptetCentre$Pile" ∈ lw_tbl := tb5 _ (List.mem_of_getElem? (i := 112) (by decide +kernel))
theorem kC_0o : Cond.castable "SeptetCentre" "java/lang/Object" ∈ lw_tbl := tb5 _ (List.mem_of_getElem? (i := 116) (by decide +kernel))
theorem kC_1o : Cond.castable "SeptetCentre$Line" "java/lang/Object" ∈ lw_tbl := tb5 _ (List.mem_of_getElem? (i := 117) (by decide +kernel))
theorem kC_3o : Cond.castable "SeptetCentre$Draft" "java/lang/Object" ∈ lw_tbl := tb5 _ (List.mem_of_getElem? (i := 118) (by decide +kernel))
theorem kC_4o : Cond.castable "SeptetCentre$Device" "java/lang/Object" ∈ lw_tbl := tb5 _ (List.mem_of_getElem? (i := 119) (by decide +kernel))
theorem kC_8o : Cond.castable "SeptetCentreModel" "java/lang/Object" ∈ lw_tbl := tb5 _ (List.mem_of_getElem? (i := 120) (by decide +kernel))
theorem kC_5o : Cond.castable "SeptetCentre$Row" "java/lang/Object" ∈ lw_tbl := tb5 _ (List.mem_of_getElem? (i := 121) (by decide +kernel))
theorem kC_6o : Cond.castable "SeptetCentre$Message" "java/lang/Object" ∈ lw_tbl := tb5 _ (List.mem_of_getElem? (i := 122) (by decide +kernel))
theorem kC_7o : Cond.castable "SeptetCentre$Pile" "java/lang/Object" ∈ lw_tbl := tb5 _ (List.mem_of_getElem? (i := 123) (by decide +kernel))
theorem kA_i : Cond.arrayClass FieldType.int ∈ lw_tbl := tb1 _ (List.mem_of_getElem? (i := 85) (by decide +kernel))
theorem kA_l : Cond.arrayClass FieldType.long ∈ lw_tbl := tb4 _ (List.mem_of_getElem? (i := 128) (by decide +kernel))
theorem kA_z : Cond.arrayClass FieldType.boolean ∈ lw_tbl := tb4 _ (List.mem_of_getElem? (i := 129) (by decide +kernel))
theorem kO_3 : Cond.arrayOver (FieldType.object "java/lang/Object") ∈ lw_tbl := tb2 _ (List.mem_of_getElem? (i := 130) (by decide +kernel))
theorem kO_4 : Cond.arrayOver (FieldType.object "SeptetCentre$Row") ∈ lw_tbl := tb3 _ (List.mem_of_getElem? (i := 141) (by decide +kernel))
theorem kO_5 : Cond.arrayOver (FieldType.object "SeptetCentre$Device") ∈ lw_tbl := tb1 _ (List.mem_of_getElem? (i := 31) (by decide +kernel))
theorem kx_n : Cond.instanceMethod objectInit ∈ lw_tbl := tb1 _ (List.mem_of_getElem? (i := 28) (by decide +kernel))
theorem kx_c : Cond.code objectInit ⟨#[0xb1]⟩ 1 none ∈ lw_tbl := tb1 _ (List.mem_of_getElem? (i := 29) (by decide +kernel))
theorem kx_SC : Cond.methodLink "SeptetCentre" 1 objectInit ∈ lw_tbl := tb1 _ (List.mem_of_getElem? (i := 27) (by decide +kernel))
theorem kx_Li : Cond.methodLink "SeptetCentre$Line" 1 objectInit ∈ lw_tbl := tb1 _ (List.mem_of_getElem? (i := 37) (by decide +kernel))
theorem kx_AbC : Cond.methodLink "java/util/AbstractCollection" 1 objectInit ∈ lw_tbl := tb1 _ (List.mem_of_getElem? (i := 49) (by decide +kernel))
theorem kx_Dr : Cond.methodLink "SeptetCentre$Draft" 1 objectInit ∈ lw_tbl := tb1 _ (List.mem_of_getElem? (i := 76) (by decide +kernel))
theorem kx_De : Cond.methodLink "SeptetCentre$Device" 1 objectInit ∈ lw_tbl := tb1 _ (List.mem_of_getElem? (i := 92) (by decide +kernel))
theorem kx_Ro : Cond.methodLink "SeptetCentre$Row" 1 objectInit ∈ lw_tbl := tb2 _ (List.mem_of_getElem? (i := 10) (by decide +kernel))
theorem kx_Me : Cond.methodLink "SeptetCentre$Message" 1 objectInit ∈ lw_tbl := tb2 _ (List.mem_of_getElem? (i := 234) (by decide +kernel))
theorem kx_Pi : Cond.methodLink "SeptetCentre$Pile" 1 objectInit ∈ lw_tbl := tb3 _ (List.mem_of_getElem? (i := 139) (by decide +kernel))
theorem kx_MO : Cond.methodLink "SeptetCentreModel" 1 objectInit ∈ lw_tbl := tb4 _ (List.mem_of_getElem? (i := 3) (by decide +kernel))
theorem kz_AS_194 : Cond.methodLink "jdk/internal/util/ArraysSupport" 194 Lib.Math.max.name ∈ lw_tbl := tb2 _ (List.mem_of_getElem? (i := 102) (by decide +kernel))
theorem kz_Ar_86 : Cond.methodLink "java/util/Arrays" 86 yGetC ∈ lw_tbl := tb2 _ (List.mem_of_getElem? (i := 112) (by decide +kernel))
theorem kz_Ar_304 : Cond.methodLink "java/util/Arrays" 304 Lib.Math.min.name ∈ lw_tbl := tb2 _ (List.mem_of_getElem? (i := 132) (by decide +kernel))
theorem kz_Ar_150 : Cond.methodLink "java/util/Arrays" 150 arraycopyName ∈ lw_tbl := tb2 _ (List.mem_of_getElem? (i := 135) (by decide +kernel))
theorem kz_AL_79 : Cond.methodLink "java/util/ArrayList" 79 Lib.Math.max.name ∈ lw_tbl := tb2 _ (List.mem_of_getElem? (i := 138) (by decide +kernel))
theorem kz_AL_112 : Cond.methodLink "java/util/ArrayList" 112 arraycopyName ∈ lw_tbl := tb2 _ (List.mem_of_getElem? (i := 193) (by decide +kernel))
theorem kz_Me_62 : Cond.methodLink "SeptetCentre$Message" 62 Lib.Math.min.name ∈ lw_tbl := tb3 _ (List.mem_of_getElem? (i := 52) (by decide +kernel))
theorem kz_nc : Cond.native arraycopyName ∈ lw_tbl := tb2 _ (List.mem_of_getElem? (i := 137) (by decide +kernel))
theorem kz_sc : Cond.static arraycopyName ∈ lw_tbl := tb2 _ (List.mem_of_getElem? (i := 136) (by decide +kernel))
theorem kz_ng : Cond.native yGetC ∈ lw_tbl := tb2 _ (List.mem_of_getElem? (i := 125) (by decide +kernel))
theorem kz_ig : Cond.instanceMethod yGetC ∈ lw_tbl := tb2 _ (List.mem_of_getElem? (i := 113) (by decide +kernel))
theorem kz_dg : Cond.declares yGetC ∈ lw_tbl := tb5 _ (List.mem_of_getElem? (i := 115) (by decide +kernel))
theorem kz_sm : Cond.static Lib.Math.min.name ∈ lw_tbl := tb2 _ (List.mem_of_getElem? (i := 133) (by decide +kernel))
theorem kz_sx : Cond.static Lib.Math.max.name ∈ lw_tbl := tb2 _ (List.mem_of_getElem? (i := 103) (by decide +kernel))
theorem kz_is : Cond.initialized "java/lang/System" ∈ lw_tbl := tb1 _ (List.mem_of_getElem? (i := 14) (by decide +kernel))
theorem kz_im : Cond.initialized "java/lang/Math" ∈ lw_tbl := tb1 _ (List.mem_of_getElem? (i := 12) (by decide +kernel))
theorem kz_cm : Cond.code Lib.Math.min.name Lib.Math.min.code 2 (some .int) ∈ lw_tbl := tb2 _ (List.mem_of_getElem? (i := 134) (by decide +kernel))
theorem kz_cx : Cond.code Lib.Math.max.name Lib.Math.max.code 2 (some .int) ∈ lw_tbl := tb2 _ (List.mem_of_getElem? (i := 104) (by decide +kernel))
theorem kz_vg : Cond.selects "[Ljava/lang/Object;" yGetC yGetC ∈ lw_tbl := tb5 _ (List.mem_of_getElem? (i := 114) (by decide +kernel))
end
section
/-! contracts by the kind of the answer -/
def Ci (G : Gx) (l : Launch) (M : MM) (d w : Nat) (av : List Value) (h : Hp) (mc ms : Nat) (P : Int32 → Hp → Prop) : Prop := Ct G l M d w av h mc ms (fun r h' => ∃ x, r = some (.int x) ∧ P x h')
def Cl (G : Gx) (l : Launch) (M : MM) (d w : Nat) (av : List Value) (h : Hp) (mc ms : Nat) (P : Int64 → Hp → Prop) : Prop := Ct G l M d w av h mc ms (fun r h' => ∃ x, r = some (.long x) ∧ P x h')
def Cr (G : Gx) (l : Launch) (M : MM) (d w : Nat) (av : List Value) (h : Hp) (mc ms : Nat) (P : Option Nat → Hp → Prop) : Prop := Ct G l M d w av h mc ms (fun r h' => ∃ x, r = some (va_rf x) ∧ P x h')
def Cv (G : Gx) (l : Launch) (M : MM) (d w : Nat) (av : List Value) (h : Hp) (mc ms : Nat) (P : Hp → Prop) : Prop := Ct G l M d w av h mc ms (fun r h' => r = none ∧ P h')
/-- an object that may stand in a row of kind t -/
def ObjA (G : Gx) (h : Hp) (v t : Nat) : Prop := ∃ ci z, hS h v = some (ci + 10, z) ∧ (zCL[ci]?).isSome = true ∧ (SysF G → Asg G (rcn t) ci)
def msk : List Bool → List (Option Value) → List (Option Value)
  | b :: bs, v :: vs => (if b then v else none) :: msk bs vs
  | _, _ => []
theorem msk_get : ∀ (bs : List Bool) (vs : List (Option Value)) (i : Nat) (v : Value), (msk bs vs)[i]? = some (some v) → vs[i]? = some (some v)
  | [], _, i, v, h => by simp [msk] at h
  | _ :: _, [], i, v, h => by simp [msk] at h
  | b :: bs, u :: vs, 0, v, h => by
    cases b
    · simp [msk] at h
    · simpa [msk] using h
  | b :: bs, u :: vs, i + 1, v, h => by
    simp only [msk, List.getElem?_cons_succ] at h ⊢
    exact msk_get bs vs i v h
theorem cat_2 (v : Value) : v.category ≤ 2 := by rcases lv_cat v with h | h <;> omega
theorem catS_2 : ∀ st : List Value, catS st ≤ 2 * st.length
  | [] => Nat.le_refl _
  | v :: st => by
    have h1 := cat_2 v
    have h2 := catS_2 st
    simp only [catS, List.map_cons, List.sum_cons, List.length_cons] at h2 ⊢
    omega
theorem catS_le {st : List Value} (h : 2 * st.length ≤ 8) : catS st ≤ 8 := Nat.le_trans (catS_2 st) h
section MK
variable {M : MM} {X : Xr} {pc : Nat} {lv : List (Option Value)} {st : List Value} {h : Hp} {k n : Nat}
theorem g_msk (bs : List Bool) (K : Go M X pc (msk bs lv) st h k n) : Go M X pc lv st h k n := by
  obtain ⟨G, ⟨p, l, e, R, s, m, args, below, meth, c⟩, Q⟩ := X
  intro ok ls H locs hl hRf hq
  exact K ok ls H locs ⟨hl.1, hl.2.1, fun i v hi => hl.2.2 i v (msk_get bs lv i v hi)⟩ hRf hq
theorem vrf (x : Option Nat) : va_rf x = .null ∨ ∃ a, va_rf x = .ref a := va_rf_or x
theorem g_aload_nV {j : Fin 4} {x : Option Nat} (hd : decode (mB M) pc = .ok (.aload_n j, 1)) (hx : lv[(j : Nat)]? = some (some (va_rf x))) (K : Go M X (pc + 1) lv (va_rf x :: st) h k n) : Go M X pc lv st h k n := by
  cases x with
  | none => exact g_aload_nN hd hx K
  | some a => exact g_aload_n hd hx K
theorem g_aloadV {j : Nat} {x : Option Nat} (hd : decode (mB M) pc = .ok (.aload j, 2)) (hx : lv[j]? = some (some (va_rf x))) (K : Go M X (pc + 2) lv (va_rf x :: st) h k n) : Go M X pc lv st h k n := by
  cases x with
  | none => exact g_aloadN hd hx K
  | some a => exact g_aload hd hx K
theorem g_astore_nV {j : Fin 4} {x : Option Nat} {lv' : List (Option Value)} (hd : decode (mB M) pc = .ok (.astore_n j, 1)) (hn : (j : Nat) < mL M) (hv : st1 lv (j : Nat) (va_rf x) = lv') (K : Go M X (pc + 1) lv' st h k n) : Go M X pc lv (va_rf x :: st) h k n := by
  cases x with
  | none => exact g_astore_nN hd hn hv K
  | some a => exact g_astore_n hd hn hv K
theorem g_astoreV {j : Nat} {x : Option Nat} {lv' : List (Option Value)} (hd : decode (mB M) pc = .ok (.astore j, 2)) (hn : j < mL M) (hv : st1 lv j (va_rf x) = lv') (K : Go M X (pc + 2) lv' st h k n) : Go M X pc lv (va_rf x :: st) h k n := by
  cases x with
  | none => exact g_astoreN hd hn hv K
  | some a => exact g_astore hd hn hv K
theorem g_alenO {a N : Nat} (hd : decode (mB M) pc = .ok (.arraylength, 1)) (hs : hS h a = some (3, N) ∨ (a = gK X.1 0 ∧ N = 0)) (K : Go M X (pc + 1) lv (.int (nI N) :: st) h k n) : Go M X pc lv (.ref a :: st) h k n := by
  rcases hs with hs | ⟨rfl, rfl⟩
  · exact g_alen hd hs (by decide) K
  · exact g_elen hd K
end MK
end
section
def wp_AbC_init (G : Gx) (l : Launch) (d w : Nat) (P : Hp → Prop) (q0 : Nat) (h : Hp) : Prop := P h
set_option maxRecDepth 100000 in
set_option maxHeartbeats 4000000 in
theorem ok_AbC_init {G : Gx} {l : Launch} {d w : Nat} {P : Hp → Prop} {q0 : Nat} {h : Hp} (H : wp_AbC_init G l d w P q0 h) : Cv G l M_AbC_init (d + 1) (w + 20) [.ref q0] h 0 0 P := by
  unfold wp_AbC_init at H
  refine Ct.of (lv := [some (.ref q0)]) (by decide) (Nat.le_of_ble_eq_true rfl) rfl (fun p e s m args below meth c => ?_)
  refine g_aload_n d_AbC_init_0 rfl ?_
  refine g_objInit d_AbC_init_1 kx_AbC kx_n kx_c (catS_le (Nat.le_of_ble_eq_true rfl)) ⟨show 1 ≤ d + 1 by omega, show 20 ≤ w + 20 by omega⟩ ?_
  exact g_return d_AbC_init_4 rfl (Nat.le_refl _) (Nat.le_refl _) ⟨rfl, H⟩
def wp_AbL_init (G : Gx) (l : Launch) (d w : Nat) (P : Hp → Prop) (q0 : Nat) (h : Hp) : Prop := ∃ P_1 : Hp → Prop, (Cv G l M_AbC_init (d + 1) (w + 20) [.ref q0] h 0 0 P_1) ∧ (∀ h_3 : Hp, P_1 h_3 → (hS h_3 q0 = some (12, 0)) ∧ (P (pI h_3 q0 2 0)))
set_option maxRecDepth 100000 in
set_option maxHeartbeats 4000000 in
theorem ok_AbL_init {G : Gx} {l : Launch} {d w : Nat} {P : Hp → Prop} {q0 : Nat} {h : Hp} (H : wp_AbL_init G l d w P q0 h) : Cv G l M_AbL_init (d + 2) (w + 40) [.ref q0] h 0 0 P := by
  unfold wp_AbL_init at H
  refine Ct.of (lv := [some (.ref q0)]) (by decide) (Nat.le_of_ble_eq_true rfl) rfl (fun p e s m args below meth c => ?_)
  refine g_aload_n d_AbL_init_0 rfl ?_
  obtain ⟨P_1, C_2, H⟩ := H
  refine q_I (As := []) (st := []) (nl := 1) d_AbL_init_1 v_AbL_1 C_2 rfl (catS_le (Nat.le_of_ble_eq_true rfl)) rfl ⟨by omega, by omega, Nat.le_refl _, Nat.le_refl _⟩ (fun r_7 h_3 p_4 => ?_)
  obtain ⟨rfl, p_4⟩ := p_4
  replace H := H h_3 p_4
  show Go _ _ _ _ [] _ _ _
  refine g_aload_n d_AbL_init_4 rfl ?_
  refine g_iconst (v := 0) d_AbL_init_5 (by decide) ?_
  obtain ⟨z_8, H⟩ := H
  refine g_putI d_AbL_init_6 f_AbL_7 (fo_2_2 _) z_8 ?_
  exact g_return d_AbL_init_9 rfl (Nat.le_refl _) (Nat.le_refl _) ⟨rfl, H⟩
def wp_AL_init (G : Gx) (l : Launch) (d w : Nat) (P : Hp → Prop) (q0 : Nat) (h : Hp) : Prop := ∃ P_1 : Hp → Prop, (Cv G l M_AbL_init (d + 2) (w + 40) [.ref q0] h 0 0 P_1) ∧ (∀ h_3 : Hp, P_1 h_3 → (hS h_3 q0 = some (12, 0)) ∧ (P (pR h_3 q0 0 (some (gK G 0)))))
set_option maxRecDepth 100000 in
set_option maxHeartbeats 4000000 in
theorem ok_AL_init {G : Gx} {l : Launch} {d w : Nat} {P : Hp → Prop} {q0 : Nat} {h : Hp} (H : wp_AL_init G l d w P q0 h) : Cv G l M_AL_init (d + 3) (w + 60) [.ref q0] h 0 0 P := by
  unfold wp_AL_init at H
  refine Ct.of (lv := [some (.ref q0)]) (by decide) (Nat.le_of_ble_eq_true rfl) rfl (fun p e s m args below meth c => ?_)
  refine g_aload_n d_AL_init_0 rfl ?_
  obtain ⟨P_1, C_2, H⟩ := H
  refine q_I (As := []) (st := []) (nl := 1) d_AL_init_1 v_AL_1 C_2 rfl (catS_le (Nat.le_of_ble_eq_true rfl)) rfl ⟨by omega, by omega, Nat.le_refl _, Nat.le_refl _⟩ (fun r_7 h_3 p_4 => ?_)
  obtain ⟨rfl, p_4⟩ := p_4
  replace H := H h_3 p_4
  show Go _ _ _ _ [] _ _ _
  refine g_aload_n d_AL_init_4 rfl ?_
  refine g_gets (t := 0) d_AL_init_5 f_AL_39 (fun hz => hz.1.1) ?_
  obtain ⟨z_8, H⟩ := H
  refine g_putR (x := (some (gK G 0))) (ty := .array (.object "java/lang/Object")) d_AL_init_8 f_AL_9 (fo_2_0 _) z_8 (by decide) (by decide +kernel) (Or.inr ⟨_, rfl⟩) ?_
  exact g_return d_AL_init_11 rfl (Nat.le_refl _) (Nat.le_refl _) ⟨rfl, H⟩
def wp_AL_add (G : Gx) (l : Launch) (d w mc ms : Nat) (P : Int32 → Hp → Prop) (q0 : Nat) (q1 : Nat) (h : Hp) : Prop := (hS h q0 = some (12, 0)) ∧ (∃ q_2 : Nat, (hR h q0 0) = some q_2 ∧ (∃ mc_9 : Nat, ∃ ms_10 : Nat, ∃ P_4 : Hp → Prop, (Cv G l M_AL_add1 (d + 5) (w + 118) [.ref q0, .ref q1, .ref q_2, .int (hI (pI h q0 2 ((hI h q0 2) + 1)) q0 1)] (pI h q0 2 ((hI h q0 2) + 1)) mc_9 ms_10 P_4) ∧ ((0 + mc_9 ≤ mc ∧ 0 + ms_10 ≤ ms) ∧ (∀ h_6 : Hp, P_4 h_6 → ((0 + mc_9) ≤ mc ∧ (0 + ms_10) ≤ ms) ∧ (P 1 h_6)))))
set_option maxRecDepth 100000 in
set_option maxHeartbeats 4000000 in
theorem ok_AL_add {G : Gx} {l : Launch} {d w : Nat} {mc ms : Nat} {P : Int32 → Hp → Prop} {q0 : Nat} {q1 : Nat} {h : Hp} (H : wp_AL_add G l d w mc ms P q0 q1 h) : Ci G l M_AL_add (d + 6) (w + 141) [.ref q0, .ref q1] h mc ms P := by
  unfold wp_AL_add at H
  refine Ct.of (lv := [some (.ref q0), some (.ref q1)]) (by decide) (Nat.le_of_ble_eq_true rfl) rfl (fun p e s m args below meth c => ?_)
  refine g_aload_n d_AL_add_0 rfl ?_
  refine g_dup d_AL_add_1 rfl ?_
  obtain ⟨z_1, H⟩ := H
  refine g_getI d_AL_add_2 f_AL_63 z_1 ?_
  refine g_iconst (v := 1) d_AL_add_5 (by decide) ?_
  refine g_iadd d_AL_add_6 ?_
  refine g_putI d_AL_add_7 f_AL_63 (fo_2_2 _) z_1 ?_
  refine g_aload_n d_AL_add_10 rfl ?_
  refine g_aload_n d_AL_add_11 rfl ?_
  refine g_aload_n d_AL_add_12 rfl ?_
  refine g_getR d_AL_add_13 f_AL_9 z_1 (by decide) ?_
  refine g_aload_n d_AL_add_16 rfl ?_
  refine g_getI d_AL_add_17 f_AL_48 z_1 ?_
  obtain ⟨q_2, e_3, H⟩ := H
  show Go _ _ _ [some (.ref q0), some (.ref q1)] [.int (hI (pI h q0 2 ((hI h q0 2) + 1)) q0 1), va_rf (hR h q0 0), .ref q1, .ref q0] _ _ _
  rw [show va_rf (hR h q0 0) = Value.ref q_2 from by rw [e_3]; rfl]
  obtain ⟨mc_9, H⟩ := H
  obtain ⟨ms_10, H⟩ := H
  obtain ⟨P_4, C_5, H⟩ := H
  obtain ⟨b_11, H⟩ := H
  refine q_V (As := [.ref q1, .ref q_2, .int (hI (pI h q0 2 ((hI h q0 2) + 1)) q0 1)]) (st := []) (nl := 4) d_AL_add_20 v_AL_131 C_5 z_1 rfl (catS_le (Nat.le_of_ble_eq_true rfl)) rfl ⟨by omega, by omega, b_11.1, b_11.2⟩ (fun r_12 h_6 p_7 => ?_)
  obtain ⟨rfl, p_7⟩ := p_7
  replace H := H h_6 p_7
  show Go _ _ _ _ [] _ _ _
  refine g_iconst (v := 1) d_AL_add_23 (by decide) ?_
  obtain ⟨b_13, H⟩ := H
  exact g_zreturn d_AL_add_24 rfl (by decide) b_13.1 b_13.2 ⟨_, rfl, H⟩
def wJ_AL_add1_11 (G : Gx) (l : Launch) (d w mc ms : Nat) (P : Hp → Prop) (q0 : Nat) (q1 : Nat) (o2 : Option Nat) (x3 : Int32) (h : Hp) (k n : Nat) : Prop := ∃ q_1 : Nat, o2 = some q_1 ∧ (∃ N_3 : Nat, ∃ j_4 : Nat, (hS h q_1 = some (3, N_3) ∧ x3 = nI j_4 ∧ j_4 < N_3 ∧ j_4 < 2147483648) ∧ ((ObjA G h q1 3) ∧ ((hS h q0 = some (12, 0)) ∧ ((k ≤ mc ∧ n ≤ ms) ∧ (P (pI (pR h q_1 j_4 (some q1)) q0 1 (x3 + 1)))))))
set_option maxRecDepth 100000 in
set_option maxHeartbeats 4000000 in
theorem okJ_AL_add1_11 {G : Gx} {l : Launch} {d w : Nat} {mc ms : Nat} {P : Hp → Prop} {p : Program} {e : Env} {s : State} {m : MethodId} {args : Array Value} {below : List Frame} {meth : Method} {c : Code} {q0 : Nat} {q1 : Nat} {o2 : Option Nat} {x3 : Int32} {h : Hp} {k n : Nat} (H : wJ_AL_add1_11 G l d w mc ms P  q0 q1 o2 x3 h k n) : Go M_AL_add1 (mkX G (fun r h' => r = none ∧ P h') (d + 5) (w + 118) mc ms p l e s m args below meth c) 11 [some (.ref q0), some (.ref q1), some (va_rf o2), some (.int x3)] [] h k n := by
  unfold wJ_AL_add1_11 at H
  refine g_aload_nV d_AL_add1_11 rfl ?_
  refine g_iload_n d_AL_add1_12 rfl ?_
  refine g_aload_n d_AL_add1_13 rfl ?_
  obtain ⟨q_1, e_2, H⟩ := H
  show Go _ _ _ [some (.ref q0), some (.ref q1), some (va_rf o2), some (.int x3)] [.ref q1, .int x3, va_rf o2] _ _ _
  rw [show va_rf o2 = Value.ref q_1 from by rw [e_2]; rfl]
  obtain ⟨N_3, H⟩ := H
  obtain ⟨j_4, H⟩ := H
  obtain ⟨z_5, H⟩ := H
  obtain ⟨u_6, H⟩ := H
  obtain ⟨u_6a, u_6b, u_6c, u_6d, u_6e⟩ := u_6
  refine g_aast d_AL_add1_14 z_5.1 (by decide) u_6c u_6d u_6e z_5.2.1 z_5.2.2.1 z_5.2.2.2 ?_
  refine g_aload_n d_AL_add1_15 rfl ?_
  refine g_iload_n d_AL_add1_16 rfl ?_
  refine g_iconst (v := 1) d_AL_add1_17 (by decide) ?_
  refine g_iadd d_AL_add1_18 ?_
  obtain ⟨z_7, H⟩ := H
  refine g_putI d_AL_add1_19 f_AL_48 (fo_2_1 _) z_7 ?_
  obtain ⟨b_8, H⟩ := H
  exact g_return d_AL_add1_22 rfl b_8.1 b_8.2 ⟨rfl, H⟩
def wp_AL_add1 (G : Gx) (l : Launch) (d w mc ms : Nat) (P : Hp → Prop) (q0 : Nat) (q1 : Nat) (q2 : Nat) (x3 : Int32) (h : Hp) : Prop := ∃ N_9 : Nat, (hS h q2 = some (3, N_9) ∨ (q2 = gK G 0 ∧ N_9 = 0)) ∧ ((¬ x3 = (nI N_9) → wJ_AL_add1_11 G l d w mc ms P q0 q1 (some q2) x3 h 0 0) ∧ (x3 = (nI N_9) → (hS h q0 = some (12, 0)) ∧ (∃ mc_18 : Nat, ∃ ms_19 : Nat, ∃ P_13 : Option Nat → Hp → Prop, (Cr G l M_AL_grow (d + 4) (w + 98) [.ref q0] h mc_18 ms_19 P_13) ∧ ((0 + mc_18 ≤ mc ∧ 0 + ms_19 ≤ ms) ∧ (∀ (o_17 : Option Nat) (h_15 : Hp), P_13 o_17 h_15 → wJ_AL_add1_11 G l d w mc ms P q0 q1 o_17 x3 h_15 (0 + mc_18) (0 + ms_19))))))
set_option maxRecDepth 100000 in
set_option maxHeartbeats 4000000 in
theorem ok_AL_add1 {G : Gx} {l : Launch} {d w : Nat} {mc ms : Nat} {P : Hp → Prop} {q0 : Nat} {q1 : Nat} {q2 : Nat} {x3 : Int32} {h : Hp} (H : wp_AL_add1 G l d w mc ms P q0 q1 q2 x3 h) : Cv G l M_AL_add1 (d + 5) (w + 118) [.ref q0, .ref q1, .ref q2, .int x3] h mc ms P := by
  unfold wp_AL_add1 at H
  refine Ct.of (lv := [some (.ref q0), some (.ref q1), some (.ref q2), some (.int x3)]) (by decide) (Nat.le_of_ble_eq_true rfl) rfl (fun p e s m args below meth c => ?_)
  refine g_iload_n d_AL_add1_0 rfl ?_
  refine g_aload_n d_AL_add1_1 rfl ?_
  obtain ⟨N_9, H⟩ := H
  obtain ⟨z_10, H⟩ := H
  refine g_alenO d_AL_add1_2 z_10 ?_
  obtain ⟨H1, H2⟩ := H
  refine g_icmp_ne (tgt := 11) d_AL_add1_3 (by decide) (fun c_11 => ?_) (fun c_11 => ?_)
  · have H := H1 c_11
    refine g_msk [true, true, true, true] ?_
    exact okJ_AL_add1_11 H
  · have H := H2 c_11
    refine g_aload_n d_AL_add1_6 rfl ?_
    obtain ⟨z_12, H⟩ := H
    obtain ⟨mc_18, H⟩ := H
    obtain ⟨ms_19, H⟩ := H
    obtain ⟨P_13, C_14, H⟩ := H
    obtain ⟨b_20, H⟩ := H
    refine q_V (As := []) (st := []) (nl := 1) d_AL_add1_7 v_AL_129 C_14 z_12 rfl (catS_le (Nat.le_of_ble_eq_true rfl)) rfl ⟨by omega, by omega, b_20.1, b_20.2⟩ (fun r_21 h_15 p_16 => ?_)
    obtain ⟨o_17, rfl, p_16⟩ := p_16
    replace H := H o_17 h_15 p_16
    show Go _ _ _ _ [va_rf o_17] _ _ _
    refine g_astore_nV (lv' := [some (.ref q0), some (.ref q1), some (va_rf o_17), some (.int x3)]) d_AL_add1_10 (by decide) rfl ?_
    refine g_msk [true, true, true, true] ?_
    exact okJ_AL_add1_11 H
def wp_AL_elementData (G : Gx) (l : Launch) (d w : Nat) (P : Option Nat → Hp → Prop) (q0 : Nat) (x1 : Int32) (h : Hp) : Prop := (hS h q0 = some (12, 0)) ∧ (∃ q_2 : Nat, (hR h q0 0) = some q_2 ∧ (∃ N_4 : Nat, ∃ j_5 : Nat, (hS h q_2 = some (3, N_4) ∧ x1 = nI j_5 ∧ j_5 < N_4 ∧ j_5 < 2147483648) ∧ (P (hR h q_2 j_5) h)))
set_option maxRecDepth 100000 in
set_option maxHeartbeats 4000000 in
theorem ok_AL_elementData {G : Gx} {l : Launch} {d w : Nat} {P : Option Nat → Hp → Prop} {q0 : Nat} {x1 : Int32} {h : Hp} (H : wp_AL_elementData G l d w P q0 x1 h) : Cr G l M_AL_elementData (d + 0) (w + 0) [.ref q0, .int x1] h 0 0 P := by
  unfold wp_AL_elementData at H
  refine Ct.of (lv := [some (.ref q0), some (.int x1)]) (by decide) (Nat.le_of_ble_eq_true rfl) rfl (fun p e s m args below meth c => ?_)
  refine g_aload_n d_AL_elementData_0 rfl ?_
  obtain ⟨z_1, H⟩ := H
  refine g_getR d_AL_elementData_1 f_AL_9 z_1 (by decide) ?_
  refine g_iload_n d_AL_elementData_4 rfl ?_
  obtain ⟨q_2, e_3, H⟩ := H
  show Go _ _ _ [some (.ref q0), some (.int x1)] [.int x1, va_rf (hR h q0 0)] _ _ _
  rw [show va_rf (hR h q0 0) = Value.ref q_2 from by rw [e_3]; rfl]
  obtain ⟨N_4, H⟩ := H
  obtain ⟨j_5, H⟩ := H
  obtain ⟨z_6, H⟩ := H
  refine g_aald d_AL_elementData_5 z_6.1 (by decide) z_6.2.1 z_6.2.2.1 z_6.2.2.2 ?_
  exact g_areturn (x := (hR h q_2 j_5)) d_AL_elementData_6 rfl (Or.inl ⟨_, rfl⟩) (Nat.le_refl _) (Nat.le_refl _) ⟨_, rfl, H⟩
def wJ_AL_fastRemove_34 (G : Gx) (l : Launch) (d w : Nat) (P : Hp → Prop) (q0 : Nat) (q1 : Nat) (x2 : Int32) (x3 : Int32) (h : Hp)  : Prop := (hS h q0 = some (12, 0)) ∧ (∃ N_2 : Nat, ∃ j_3 : Nat, (hS h q1 = some (3, N_2) ∧ x3 = nI j_3 ∧ j_3 < N_2 ∧ j_3 < 2147483648) ∧ (P (pR (pI h q0 1 x3) q1 j_3 none)))
set_option maxRecDepth 100000 in
set_option maxHeartbeats 4000000 in
theorem okJ_AL_fastRemove_34 {G : Gx} {l : Launch} {d w : Nat} {P : Hp → Prop} {p : Program} {e : Env} {s : State} {m : MethodId} {args : Array Value} {below : List Frame} {meth : Method} {c : Code} {q0 : Nat} {q1 : Nat} {x2 : Int32} {x3 : Int32} {h : Hp}  (H : wJ_AL_fastRemove_34 G l d w P  q0 q1 x2 x3 h ) : Go M_AL_fastRemove (mkX G (fun r h' => r = none ∧ P h') (d + 1) (w + 30) 0 0 p l e s m args below meth c) 34 [some (.ref q0), some (.ref q1), some (.int x2), some (.int x3)] [] h 0 0 := by
  unfold wJ_AL_fastRemove_34 at H
  refine g_aload_n d_AL_fastRemove_34 rfl ?_
  refine g_aload_n d_AL_fastRemove_35 rfl ?_
  refine g_iload_n d_AL_fastRemove_36 rfl ?_
  refine g_dup_x1 d_AL_fastRemove_37 rfl rfl ?_
  obtain ⟨z_1, H⟩ := H
  refine g_putI d_AL_fastRemove_38 f_AL_48 (fo_2_1 _) z_1 ?_
  refine g_null d_AL_fastRemove_41 ?_
  obtain ⟨N_2, H⟩ := H
  obtain ⟨j_3, H⟩ := H
  obtain ⟨z_4, H⟩ := H
  refine g_aastN d_AL_fastRemove_42 z_4.1 (by decide) z_4.2.1 z_4.2.2.1 z_4.2.2.2 ?_
  exact g_return d_AL_fastRemove_43 rfl (Nat.le_refl _) (Nat.le_refl _) ⟨rfl, H⟩
def wp_AL_fastRemove (G : Gx) (l : Launch) (d w : Nat) (P : Hp → Prop) (q0 : Nat) (q1 : Nat) (x2 : Int32) (h : Hp) : Prop := (hS h q0 = some (12, 0)) ∧ (∀ x_6 : Int32, x_6 = ((hI (pI h q0 2 ((hI h q0 2) + 1)) q0 1) - 1) → (((hI (pI h q0 2 ((hI h q0 2) + 1)) q0 1) - 1) ≤ x2 → wJ_AL_fastRemove_34 G l d w P q0 q1 x2 x_6 (pI h q0 2 ((hI h q0 2) + 1))) ∧ (¬ ((hI (pI h q0 2 ((hI h q0 2) + 1)) q0 1) - 1) ≤ x2 → ∃ N_9 : Nat, ∃ N_10 : Nat, ∃ j_11 : Nat, ∃ j_12 : Nat, ∃ j_13 : Nat, (hS h q1 = some (3, N_9) ∧ hS h q1 = some (3, N_10) ∧ (x2 + 1) = nI j_11 ∧ x2 = nI j_12 ∧ (x_6 - x2) = nI j_13 ∧ j_11 + j_13 ≤ N_9 ∧ j_12 + j_13 ≤ N_10 ∧ N_9 < 2147483648 ∧ N_10 < 2147483648 ∧ ∀ i, i < j_13 → ∀ y, hR h q1 (j_11 + i) = some y → ObjA G h y 3) ∧ (wJ_AL_fastRemove_34 G l d w P q0 q1 x2 x_6 (pA (pI h q0 2 ((hI h q0 2) + 1)) q1 (va_cpy (hR h q1) (hR h q1) j_11 j_12 j_13)))))
set_option maxRecDepth 100000 in
set_option maxHeartbeats 4000000 in
theorem ok_AL_fastRemove {G : Gx} {l : Launch} {d w : Nat} {P : Hp → Prop} {q0 : Nat} {q1 : Nat} {x2 : Int32} {h : Hp} (H : wp_AL_fastRemove G l d w P q0 q1 x2 h) : Cv G l M_AL_fastRemove (d + 1) (w + 30) [.ref q0, .ref q1, .int x2] h 0 0 P := by
  unfold wp_AL_fastRemove at H
  refine Ct.of (lv := [some (.ref q0), some (.ref q1), some (.int x2), none]) (by decide) (Nat.le_of_ble_eq_true rfl) rfl (fun p e s m args below meth c => ?_)
  refine g_aload_n d_AL_fastRemove_0 rfl ?_
  refine g_dup d_AL_fastRemove_1 rfl ?_
  obtain ⟨z_5, H⟩ := H
  refine g_getI d_AL_fastRemove_2 f_AL_63 z_5 ?_
  refine g_iconst (v := 1) d_AL_fastRemove_5 (by decide) ?_
  refine g_iadd d_AL_fastRemove_6 ?_
  refine g_putI d_AL_fastRemove_7 f_AL_63 (fo_2_2 _) z_5 ?_
  refine g_aload_n d_AL_fastRemove_10 rfl ?_
  refine g_getI d_AL_fastRemove_11 f_AL_48 z_5 ?_
  refine g_iconst (v := 1) d_AL_fastRemove_14 (by decide) ?_
  refine g_isub d_AL_fastRemove_15 ?_
  refine g_dup d_AL_fastRemove_16 rfl ?_
  refine g_topi (fun x_6 ex_6 => ?_)
  replace H := H x_6 ex_6
  refine g_istore_n (lv' := [some (.ref q0), some (.ref q1), some (.int x2), some (.int x_6)]) d_AL_fastRemove_17 (by decide) rfl ?_
  refine g_iload_n d_AL_fastRemove_18 rfl ?_
  obtain ⟨H1, H2⟩ := H
  refine g_icmp_le (tgt := 34) d_AL_fastRemove_19 (by decide) (fun c_7 => ?_) (fun c_7 => ?_)
  · have H := H1 c_7
    refine g_msk [true, true, true, true] ?_
    exact okJ_AL_fastRemove_34 H
  · have H := H2 c_7
    refine g_aload_n d_AL_fastRemove_22 rfl ?_
    refine g_iload_n d_AL_fastRemove_23 rfl ?_
    refine g_iconst (v := 1) d_AL_fastRemove_24 (by decide) ?_
    refine g_iadd d_AL_fastRemove_25 ?_
    refine g_aload_n d_AL_fastRemove_26 rfl ?_
    refine g_iload_n d_AL_fastRemove_27 rfl ?_
    refine g_iload_n d_AL_fastRemove_28 rfl ?_
    refine g_iload_n d_AL_fastRemove_29 rfl ?_
    refine g_isub d_AL_fastRemove_30 ?_
    obtain ⟨N_9, H⟩ := H
    obtain ⟨N_10, H⟩ := H
    obtain ⟨j_11, H⟩ := H
    obtain ⟨j_12, H⟩ := H
    obtain ⟨j_13, H⟩ := H
    obtain ⟨z_8, H⟩ := H
    refine g_acopy d_AL_fastRemove_31 kz_AL_112 kz_nc kz_sc kz_is z_8.1 z_8.2.1 z_8.2.2.1 z_8.2.2.2.1 z_8.2.2.2.2.1 z_8.2.2.2.2.2.1 z_8.2.2.2.2.2.2.1 ⟨z_8.2.2.2.2.2.2.2.1, z_8.2.2.2.2.2.2.2.2.1⟩ z_8.2.2.2.2.2.2.2.2.2 (catS_le (Nat.le_of_ble_eq_true rfl)) ⟨show 1 ≤ d + 1 by omega, show _ ≤ w + 30 from Nat.le_trans (by decide : _ ≤ 30) (by omega)⟩ ?_
    refine g_msk [true, true, true, true] ?_
    exact okJ_AL_fastRemove_34 H
def wp_AL_get (G : Gx) (l : Launch) (d w : Nat) (P : Option Nat → Hp → Prop) (q0 : Nat) (x1 : Int32) (h : Hp) : Prop := (hS h q0 = some (12, 0)) ∧ (∃ P_2 : Int32 → Hp → Prop, (Ci G l M_Ob_checkIndex (d + 2) (w + 52) [.int x1, .int (hI h q0 1)] h 0 0 P_2) ∧ (∀ (x_6 : Int32) (h_4 : Hp), P_2 x_6 h_4 → (hS h_4 q0 = some (12, 0)) ∧ (∃ P_10 : Option Nat → Hp → Prop, (Cr G l M_AL_elementData (d + 0) (w + 0) [.ref q0, .int x1] h_4 0 0 P_10) ∧ (∀ (o_14 : Option Nat) (h_12 : Hp), P_10 o_14 h_12 → P o_14 h_12))))
set_option maxRecDepth 100000 in
set_option maxHeartbeats 4000000 in
theorem ok_AL_get {G : Gx} {l : Launch} {d w : Nat} {P : Option Nat → Hp → Prop} {q0 : Nat} {x1 : Int32} {h : Hp} (H : wp_AL_get G l d w P q0 x1 h) : Cr G l M_AL_get (d + 3) (w + 73) [.ref q0, .int x1] h 0 0 P := by
  unfold wp_AL_get at H
  refine Ct.of (lv := [some (.ref q0), some (.int x1)]) (by decide) (Nat.le_of_ble_eq_true rfl) rfl (fun p e s m args below meth c => ?_)
  refine g_iload_n d_AL_get_0 rfl ?_
  refine g_aload_n d_AL_get_1 rfl ?_
  obtain ⟨z_1, H⟩ := H
  refine g_getI d_AL_get_2 f_AL_48 z_1 ?_
  obtain ⟨P_2, C_3, H⟩ := H
  refine q_S (As := [.int x1, .int (hI h q0 1)]) (st := []) (nl := 2) d_AL_get_5 v_AL_118 C_3 rfl (catS_le (Nat.le_of_ble_eq_true rfl)) rfl ⟨by omega, by omega, Nat.le_refl _, Nat.le_refl _⟩ (fun r_8 h_4 p_5 => ?_)
  obtain ⟨x_6, rfl, p_5⟩ := p_5
  replace H := H x_6 h_4 p_5
  show Go _ _ _ _ [.int x_6] _ _ _
  refine g_pop d_AL_get_8 rfl ?_
  refine g_aload_n d_AL_get_9 rfl ?_
  refine g_iload_n d_AL_get_10 rfl ?_
  obtain ⟨z_9, H⟩ := H
  obtain ⟨P_10, C_11, H⟩ := H
  refine q_V (As := [.int x1]) (st := []) (nl := 2) d_AL_get_11 v_AL_123 C_11 z_9 rfl (catS_le (Nat.le_of_ble_eq_true rfl)) rfl ⟨by omega, by omega, Nat.le_refl _, Nat.le_refl _⟩ (fun r_16 h_12 p_13 => ?_)
  obtain ⟨o_14, rfl, p_13⟩ := p_13
  replace H := H o_14 h_12 p_13
  show Go _ _ _ _ [va_rf o_14] _ _ _
  exact g_areturn (x := o_14) d_AL_get_14 rfl (Or.inl ⟨_, rfl⟩) (Nat.le_refl _) (Nat.le_refl _) ⟨_, rfl, H⟩
def wp_AL_grow (G : Gx) (l : Launch) (d w mc ms : Nat) (P : Option Nat → Hp → Prop) (q0 : Nat) (h : Hp) : Prop := (hS h q0 = some (12, 0)) ∧ (∃ mc_7 : Nat, ∃ ms_8 : Nat, ∃ P_2 : Option Nat → Hp → Prop, (Cr G l M_AL_grow1 (d + 3) (w + 75) [.ref q0, .int ((hI h q0 1) + 1)] h mc_7 ms_8 P_2) ∧ ((0 + mc_7 ≤ mc ∧ 0 + ms_8 ≤ ms) ∧ (∀ (o_6 : Option Nat) (h_4 : Hp), P_2 o_6 h_4 → ((0 + mc_7) ≤ mc ∧ (0 + ms_8) ≤ ms) ∧ (P o_6 h_4))))
set_option maxRecDepth 100000 in
set_option maxHeartbeats 4000000 in
theorem ok_AL_grow {G : Gx} {l : Launch} {d w : Nat} {mc ms : Nat} {P : Option Nat → Hp → Prop} {q0 : Nat} {h : Hp} (H : wp_AL_grow G l d w mc ms P q0 h) : Cr G l M_AL_grow (d + 4) (w + 98) [.ref q0] h mc ms P := by
  unfold wp_AL_grow at H
  refine Ct.of (lv := [some (.ref q0)]) (by decide) (Nat.le_of_ble_eq_true rfl) rfl (fun p e s m args below meth c => ?_)
  refine g_aload_n d_AL_grow_0 rfl ?_
  refine g_aload_n d_AL_grow_1 rfl ?_
  obtain ⟨z_1, H⟩ := H
  refine g_getI d_AL_grow_2 f_AL_48 z_1 ?_
  refine g_iconst (v := 1) d_AL_grow_5 (by decide) ?_
  refine g_iadd d_AL_grow_6 ?_
  obtain ⟨mc_7, H⟩ := H
  obtain ⟨ms_8, H⟩ := H
  obtain ⟨P_2, C_3, H⟩ := H
  obtain ⟨b_9, H⟩ := H
  refine q_V (As := [.int ((hI h q0 1) + 1)]) (st := []) (nl := 4) d_AL_grow_7 v_AL_69 C_3 z_1 rfl (catS_le (Nat.le_of_ble_eq_true rfl)) rfl ⟨by omega, by omega, b_9.1, b_9.2⟩ (fun r_10 h_4 p_5 => ?_)
  obtain ⟨o_6, rfl, p_5⟩ := p_5
  replace H := H o_6 h_4 p_5
  show Go _ _ _ _ [va_rf o_6] _ _ _
  obtain ⟨b_11, H⟩ := H
  exact g_areturn (x := o_6) d_AL_grow_10 rfl (Or.inr ⟨_, rfl⟩) b_11.1 b_11.2 ⟨_, rfl, H⟩
def wJ_AL_grow1_20 (G : Gx) (l : Launch) (d w mc ms : Nat) (P : Option Nat → Hp → Prop) (q0 : Nat) (x1 : Int32) (x2 : Int32) (h : Hp) (k n : Nat) : Prop := ∃ P_1 : Int32 → Hp → Prop, (Ci G l M_AS_newLength (d + 2) (w + 52) [.int x2, .int (x1 - x2), .int (x2 >>> (1 &&& 31))] h 0 0 P_1) ∧ ((k ≤ mc ∧ n ≤ ms) ∧ (∀ (x_5 : Int32) (h_3 : Hp), P_1 x_5 h_3 → (hS h_3 q0 = some (12, 0)) ∧ (∃ q_9 : Nat, (hR h_3 q0 0) = some q_9 ∧ (∃ mc_16 : Nat, ∃ ms_17 : Nat, ∃ P_11 : Option Nat → Hp → Prop, (Cr G l M_Ar_copyOf (d + 2) (w + 53) [.ref q_9, .int x_5] h_3 mc_16 ms_17 P_11) ∧ ((k + mc_16 ≤ mc ∧ n + ms_17 ≤ ms) ∧ (∀ (o_15 : Option Nat) (h_13 : Hp), P_11 o_15 h_13 → (hS h_13 q0 = some (12, 0)) ∧ (((k + mc_16) ≤ mc ∧ (n + ms_17) ≤ ms) ∧ (P o_15 (pR h_13 q0 0 o_15)))))))))
set_option maxRecDepth 100000 in
set_option maxHeartbeats 4000000 in
theorem okJ_AL_grow1_20 {G : Gx} {l : Launch} {d w : Nat} {mc ms : Nat} {P : Option Nat → Hp → Prop} {p : Program} {e : Env} {s : State} {m : MethodId} {args : Array Value} {below : List Frame} {meth : Method} {c : Code} {q0 : Nat} {x1 : Int32} {x2 : Int32} {h : Hp} {k n : Nat} (H : wJ_AL_grow1_20 G l d w mc ms P  q0 x1 x2 h k n) : Go M_AL_grow1 (mkX G (fun r h' => ∃ x, r = some (va_rf x) ∧ P x h') (d + 3) (w + 75) mc ms p l e s m args below meth c) 20 [some (.ref q0), some (.int x1), some (.int x2), none] [] h k n := by
  unfold wJ_AL_grow1_20 at H
  refine g_iload_n d_AL_grow1_20 rfl ?_
  refine g_iload_n d_AL_grow1_21 rfl ?_
  refine g_iload_n d_AL_grow1_22 rfl ?_
  refine g_isub d_AL_grow1_23 ?_
  refine g_iload_n d_AL_grow1_24 rfl ?_
  refine g_iconst (v := 1) d_AL_grow1_25 (by decide) ?_
  refine g_ishr d_AL_grow1_26 ?_
  obtain ⟨P_1, C_2, H⟩ := H
  obtain ⟨b_6, H⟩ := H
  refine q_S (As := [.int x2, .int (x1 - x2), .int (x2 >>> (1 &&& 31))]) (st := []) (nl := 4) d_AL_grow1_27 v_AL_73 C_2 rfl (catS_le (Nat.le_of_ble_eq_true rfl)) rfl ⟨by omega, by omega, b_6.1, b_6.2⟩ (fun r_7 h_3 p_4 => ?_)
  obtain ⟨x_5, rfl, p_4⟩ := p_4
  replace H := H x_5 h_3 p_4
  show Go _ _ _ _ [.int x_5] _ _ _
  refine g_istore_n (lv' := [some (.ref q0), some (.int x1), some (.int x2), some (.int x_5)]) d_AL_grow1_30 (by decide) rfl ?_
  refine g_aload_n d_AL_grow1_31 rfl ?_
  refine g_aload_n d_AL_grow1_32 rfl ?_
  obtain ⟨z_8, H⟩ := H
  refine g_getR d_AL_grow1_33 f_AL_9 z_8 (by decide) ?_
  refine g_iload_n d_AL_grow1_36 rfl ?_
  obtain ⟨q_9, e_10, H⟩ := H
  show Go _ _ _ [some (.ref q0), some (.int x1), some (.int x2), some (.int x_5)] [.int x_5, va_rf (hR h_3 q0 0), .ref q0] _ _ _
  rw [show va_rf (hR h_3 q0 0) = Value.ref q_9 from by rw [e_10]; rfl]
  obtain ⟨mc_16, H⟩ := H
  obtain ⟨ms_17, H⟩ := H
  obtain ⟨P_11, C_12, H⟩ := H
  obtain ⟨b_18, H⟩ := H
  refine q_S (As := [.ref q_9, .int x_5]) (st := [.ref q0]) (nl := 2) d_AL_grow1_37 v_AL_66 C_12 rfl (catS_le (Nat.le_of_ble_eq_true rfl)) rfl ⟨by omega, by omega, b_18.1, b_18.2⟩ (fun r_19 h_13 p_14 => ?_)
  obtain ⟨o_15, rfl, p_14⟩ := p_14
  replace H := H o_15 h_13 p_14
  show Go _ _ _ _ [va_rf o_15, .ref q0] _ _ _
  refine g_dup_x1 d_AL_grow1_40 (by cases o_15 <;> rfl) rfl ?_
  obtain ⟨z_20, H⟩ := H
  refine g_putR (x := o_15) (ty := .array (.object "java/lang/Object")) d_AL_grow1_41 f_AL_9 (fo_2_0 _) z_20 (by decide) (by decide +kernel) (Or.inr ⟨_, rfl⟩) ?_
  obtain ⟨b_21, H⟩ := H
  exact g_areturn (x := o_15) d_AL_grow1_44 rfl (Or.inr ⟨_, rfl⟩) b_21.1 b_21.2 ⟨_, rfl, H⟩
def wp_AL_grow1 (G : Gx) (l : Launch) (d w mc ms : Nat) (P : Option Nat → Hp → Prop) (q0 : Nat) (x1 : Int32) (h : Hp) : Prop := (hS h q0 = some (12, 0)) ∧ (∃ q_23 : Nat, (hR h q0 0) = some q_23 ∧ (∃ N_25 : Nat, (hS h q_23 = some (3, N_25) ∨ (q_23 = gK G 0 ∧ N_25 = 0)) ∧ (∀ x_27 : Int32, x_27 = (nI N_25) → (0 < x_27 → wJ_AL_grow1_20 G l d w mc ms P q0 x1 x_27 h 0 0) ∧ (¬ 0 < x_27 → ((hR h q0 0) = (some (gK G 0)) → (0 ≤ mc ∧ 0 ≤ ms) ∧ (∃ N_33 : Nat, ((if 10 < x1 then x1 else 10) = nI N_33 ∧ N_33 * 4 ≤ 536870912) ∧ ((0 + 1 ≤ mc ∧ 0 + N_33 ≤ ms) ∧ (∀ q_31 : Nat, Fre h q_31 → ((0 + 1) ≤ mc ∧ (0 + N_33) ≤ ms) ∧ (P (some q_31) (pR (pN h q_31 (3, N_33)) q0 0 (some q_31))))))) ∧ (¬ (hR h q0 0) = (some (gK G 0)) → wJ_AL_grow1_20 G l d w mc ms P q0 x1 x_27 h 0 0)))))
set_option maxRecDepth 100000 in
set_option maxHeartbeats 4000000 in
theorem ok_AL_grow1 {G : Gx} {l : Launch} {d w : Nat} {mc ms : Nat} {P : Option Nat → Hp → Prop} {q0 : Nat} {x1 : Int32} {h : Hp} (H : wp_AL_grow1 G l d w mc ms P q0 x1 h) : Cr G l M_AL_grow1 (d + 3) (w + 75) [.ref q0, .int x1] h mc ms P := by
  unfold wp_AL_grow1 at H
  refine Ct.of (lv := [some (.ref q0), some (.int x1), none, none]) (by decide) (Nat.le_of_ble_eq_true rfl) rfl (fun p e s m args below meth c => ?_)
  refine g_aload_n d_AL_grow1_0 rfl ?_
  obtain ⟨z_22, H⟩ := H
  refine g_getR d_AL_grow1_1 f_AL_9 z_22 (by decide) ?_
  obtain ⟨q_23, e_24, H⟩ := H
  refine g_eqr e_24 ?_
  obtain ⟨N_25, H⟩ := H
  obtain ⟨z_26, H⟩ := H
  refine g_alenO d_AL_grow1_4 z_26 ?_
  refine g_topi (fun x_27 ex_27 => ?_)
  replace H := H x_27 ex_27
  refine g_istore_n (lv' := [some (.ref q0), some (.int x1), some (.int x_27), none]) d_AL_grow1_5 (by decide) rfl ?_
  refine g_iload_n d_AL_grow1_6 rfl ?_
  obtain ⟨H1, H2⟩ := H
  refine g_if_gt (tgt := 20) d_AL_grow1_7 (by decide) (fun c_28 => ?_) (fun c_28 => ?_)
  · have H := H1 c_28
    refine g_msk [true, true, true, false] ?_
    exact okJ_AL_grow1_20 H
  · have H := H2 c_28
    refine g_aload_n d_AL_grow1_10 rfl ?_
    refine g_getR d_AL_grow1_11 f_AL_9 z_22 (by decide) ?_
    refine g_gets (t := 0) d_AL_grow1_14 f_AL_39 (fun hz => hz.1.1) ?_
    obtain ⟨H1, H2⟩ := H
    refine g_acmp_eq (x := (hR h q0 0)) (y := (some (gK G 0))) (tgt := 45) d_AL_grow1_17 (by decide) (fun c_29 => ?_) (fun c_29 => ?_)
    · have H := H1 c_29
      refine g_aload_n d_AL_grow1_45 rfl ?_
      refine g_bipush (v := 10) d_AL_grow1_46 (by decide) ?_
      refine g_iload_n d_AL_grow1_48 rfl ?_
      obtain ⟨b_30, H⟩ := H
      refine g_max d_AL_grow1_49 kz_AL_79 (catS_le (Nat.le_of_ble_eq_true rfl)) ⟨show 1 ≤ d + 3 by omega, show 21 ≤ w + 75 by omega, b_30.1, b_30.2⟩ kz_sx kz_im kz_cx ?_
      obtain ⟨N_33, H⟩ := H
      obtain ⟨z_34, H⟩ := H
      obtain ⟨b_32, H⟩ := H
      refine g_anew (t := 3) d_AL_grow1_52 (by decide) k_AL_7 kO_3 z_34.1 z_34.2 b_32.1 b_32.2 (fun q_31 Fq_31 => ?_)
      replace H := H q_31 Fq_31
      have z_35 := Fre.old (kd := (3, N_33)) Fq_31 z_22
      have z_36 : hS (pN h q_31 (3, N_33)) q_31 = some (3, N_33) := Fre.new
      refine g_dup_x1 d_AL_grow1_55 rfl rfl ?_
      refine g_putR (x := (some q_31)) (ty := .array (.object "java/lang/Object")) d_AL_grow1_56 f_AL_9 (fo_2_0 _) z_35 (by decide) (by decide +kernel) (Or.inr ⟨_, rfl⟩) ?_
      obtain ⟨b_37, H⟩ := H
      exact g_areturn (x := (some q_31)) d_AL_grow1_59 rfl (Or.inr ⟨_, rfl⟩) b_37.1 b_37.2 ⟨_, rfl, H⟩
    · have H := H2 c_29
      refine g_msk [true, true, true, false] ?_
      exact okJ_AL_grow1_20 H
def wJ_AL_isEmpty_12 (G : Gx) (l : Launch) (d w : Nat) (P : Int32 → Hp → Prop) (q0 : Nat) (sx0 : Int32) (h : Hp)  : Prop := (sx0 = 0 ∨ sx0 = 1) ∧ (P sx0 h)
set_option maxRecDepth 100000 in
set_option maxHeartbeats 4000000 in
theorem okJ_AL_isEmpty_12 {G : Gx} {l : Launch} {d w : Nat} {P : Int32 → Hp → Prop} {p : Program} {e : Env} {s : State} {m : MethodId} {args : Array Value} {below : List Frame} {meth : Method} {c : Code} {q0 : Nat} {sx0 : Int32} {h : Hp}  (H : wJ_AL_isEmpty_12 G l d w P  q0 sx0 h ) : Go M_AL_isEmpty (mkX G (fun r h' => ∃ x, r = some (.int x) ∧ P x h') (d + 0) (w + 0) 0 0 p l e s m args below meth c) 12 [some (.ref q0)] [.int sx0] h 0 0 := by
  unfold wJ_AL_isEmpty_12 at H
  obtain ⟨z_1, H⟩ := H
  exact g_zreturn d_AL_isEmpty_12 rfl z_1 (Nat.le_refl _) (Nat.le_refl _) ⟨_, rfl, H⟩
def wp_AL_isEmpty (G : Gx) (l : Launch) (d w : Nat) (P : Int32 → Hp → Prop) (q0 : Nat) (h : Hp) : Prop := (hS h q0 = some (12, 0)) ∧ ((¬ (hI h q0 1) = 0 → wJ_AL_isEmpty_12 G l d w P q0 0 h) ∧ ((hI h q0 1) = 0 → wJ_AL_isEmpty_12 G l d w P q0 1 h))
set_option maxRecDepth 100000 in
set_option maxHeartbeats 4000000 in
theorem ok_AL_isEmpty {G : Gx} {l : Launch} {d w : Nat} {P : Int32 → Hp → Prop} {q0 : Nat} {h : Hp} (H : wp_AL_isEmpty G l d w P q0 h) : Ci G l M_AL_isEmpty (d + 0) (w + 0) [.ref q0] h 0 0 P := by
  unfold wp_AL_isEmpty at H
  refine Ct.of (lv := [some (.ref q0)]) (by decide) (Nat.le_of_ble_eq_true rfl) rfl (fun p e s m args below meth c => ?_)
  refine g_aload_n d_AL_isEmpty_0 rfl ?_
  obtain ⟨z_2, H⟩ := H
  refine g_getI d_AL_isEmpty_1 f_AL_48 z_2 ?_
  obtain ⟨H1, H2⟩ := H
  refine g_if_ne (tgt := 11) d_AL_isEmpty_4 (by decide) (fun c_3 => ?_) (fun c_3 => ?_)
  · have H := H1 c_3
    refine g_iconst (v := 0) d_AL_isEmpty_11 (by decide) ?_
    refine g_msk [true] ?_
    exact okJ_AL_isEmpty_12 H
  · have H := H2 c_3
    refine g_iconst (v := 1) d_AL_isEmpty_7 (by decide) ?_
    refine g_goto (tgt := 12) d_AL_isEmpty_8 (by decide) ?_
    refine g_msk [true] ?_
    exact okJ_AL_isEmpty_12 H
def wp_AL_remove (G : Gx) (l : Launch) (d w : Nat) (P : Option Nat → Hp → Prop) (q0 : Nat) (x1 : Int32) (h : Hp) : Prop := (hS h q0 = some (12, 0)) ∧ (∃ P_2 : Int32 → Hp → Prop, (Ci G l M_Ob_checkIndex (d + 2) (w + 52) [.int x1, .int (hI h q0 1)] h 0 0 P_2) ∧ (∀ (x_6 : Int32) (h_4 : Hp), P_2 x_6 h_4 → (hS h_4 q0 = some (12, 0)) ∧ (∃ q_10 : Nat, (hR h_4 q0 0) = some q_10 ∧ (∃ N_12 : Nat, ∃ j_13 : Nat, (hS h_4 q_10 = some (3, N_12) ∧ x1 = nI j_13 ∧ j_13 < N_12 ∧ j_13 < 2147483648) ∧ (∃ P_15 : Hp → Prop, (Cv G l M_AL_fastRemove (d + 1) (w + 30) [.ref q0, .ref q_10, .int x1] h_4 0 0 P_15) ∧ (∀ h_17 : Hp, P_15 h_17 → P (hR h_4 q_10 j_13) h_17))))))
set_option maxRecDepth 100000 in
set_option maxHeartbeats 4000000 in
theorem ok_AL_remove {G : Gx} {l : Launch} {d w : Nat} {P : Option Nat → Hp → Prop} {q0 : Nat} {x1 : Int32} {h : Hp} (H : wp_AL_remove G l d w P q0 x1 h) : Cr G l M_AL_remove (d + 3) (w + 73) [.ref q0, .int x1] h 0 0 P := by
  unfold wp_AL_remove at H
  refine Ct.of (lv := [some (.ref q0), some (.int x1), none, none]) (by decide) (Nat.le_of_ble_eq_true rfl) rfl (fun p e s m args below meth c => ?_)
  refine g_iload_n d_AL_remove_0 rfl ?_
  refine g_aload_n d_AL_remove_1 rfl ?_
  obtain ⟨z_1, H⟩ := H
  refine g_getI d_AL_remove_2 f_AL_48 z_1 ?_
  obtain ⟨P_2, C_3, H⟩ := H
  refine q_S (As := [.int x1, .int (hI h q0 1)]) (st := []) (nl := 2) d_AL_remove_5 v_AL_118 C_3 rfl (catS_le (Nat.le_of_ble_eq_true rfl)) rfl ⟨by omega, by omega, Nat.le_refl _, Nat.le_refl _⟩ (fun r_8 h_4 p_5 => ?_)
  obtain ⟨x_6, rfl, p_5⟩ := p_5
  replace H := H x_6 h_4 p_5
  show Go _ _ _ _ [.int x_6] _ _ _
  refine g_pop d_AL_remove_8 rfl ?_
  refine g_aload_n d_AL_remove_9 rfl ?_
  obtain ⟨z_9, H⟩ := H
  refine g_getR d_AL_remove_10 f_AL_9 z_9 (by decide) ?_
  refine g_astore_nV (lv' := [some (.ref q0), some (.int x1), some (va_rf (hR h_4 q0 0)), none]) d_AL_remove_13 (by decide) rfl ?_
  refine g_aload_nV d_AL_remove_14 rfl ?_
  refine g_iload_n d_AL_remove_15 rfl ?_
  obtain ⟨q_10, e_11, H⟩ := H
  show Go _ _ _ [some (.ref q0), some (.int x1), some (va_rf (hR h_4 q0 0)), none] [.int x1, va_rf (hR h_4 q0 0)] _ _ _
  rw [show va_rf (hR h_4 q0 0) = Value.ref q_10 from by rw [e_11]; rfl]
  obtain ⟨N_12, H⟩ := H
  obtain ⟨j_13, H⟩ := H
  obtain ⟨z_14, H⟩ := H
  refine g_aald d_AL_remove_16 z_14.1 (by decide) z_14.2.1 z_14.2.2.1 z_14.2.2.2 ?_
  refine g_astore_nV (lv' := [some (.ref q0), some (.int x1), some (.ref q_10), some (va_rf (hR h_4 q_10 j_13))]) d_AL_remove_17 (by decide) rfl ?_
  refine g_aload_n d_AL_remove_18 rfl ?_
  refine g_aload_n d_AL_remove_19 rfl ?_
  refine g_iload_n d_AL_remove_20 rfl ?_
  obtain ⟨P_15, C_16, H⟩ := H
  refine q_V (As := [.ref q_10, .int x1]) (st := []) (nl := 4) d_AL_remove_21 v_AL_144 C_16 z_9 rfl (catS_le (Nat.le_of_ble_eq_true rfl)) rfl ⟨by omega, by omega, Nat.le_refl _, Nat.le_refl _⟩ (fun r_21 h_17 p_18 => ?_)
  obtain ⟨rfl, p_18⟩ := p_18
  replace H := H h_17 p_18
  show Go _ _ _ _ [] _ _ _
  refine g_aload_nV d_AL_remove_24 rfl ?_
  exact g_areturn (x := (hR h_4 q_10 j_13)) d_AL_remove_25 rfl (Or.inl ⟨_, rfl⟩) (Nat.le_refl _) (Nat.le_refl _) ⟨_, rfl, H⟩
def wp_AL_set (G : Gx) (l : Launch) (d w : Nat) (P : Option Nat → Hp → Prop) (q0 : Nat) (x1 : Int32) (q2 : Nat) (h : Hp) : Prop := (hS h q0 = some (12, 0)) ∧ (∃ P_2 : Int32 → Hp → Prop, (Ci G l M_Ob_checkIndex (d + 2) (w + 52) [.int x1, .int (hI h q0 1)] h 0 0 P_2) ∧ (∀ (x_6 : Int32) (h_4 : Hp), P_2 x_6 h_4 → (hS h_4 q0 = some (12, 0)) ∧ (∃ P_10 : Option Nat → Hp → Prop, (Cr G l M_AL_elementData (d + 0) (w + 0) [.ref q0, .int x1] h_4 0 0 P_10) ∧ (∀ (o_14 : Option Nat) (h_12 : Hp), P_10 o_14 h_12 → (hS h_12 q0 = some (12, 0)) ∧ (∃ q_18 : Nat, (hR h_12 q0 0) = some q_18 ∧ (∃ N_20 : Nat, ∃ j_21 : Nat, (hS h_12 q_18 = some (3, N_20) ∧ x1 = nI j_21 ∧ j_21 < N_20 ∧ j_21 < 2147483648) ∧ ((ObjA G h_12 q2 3) ∧ (P o_14 (pR h_12 q_18 j_21 (some q2))))))))))
set_option maxRecDepth 100000 in
set_option maxHeartbeats 4000000 in
theorem ok_AL_set {G : Gx} {l : Launch} {d w : Nat} {P : Option Nat → Hp → Prop} {q0 : Nat} {x1 : Int32} {q2 : Nat} {h : Hp} (H : wp_AL_set G l d w P q0 x1 q2 h) : Cr G l M_AL_set (d + 3) (w + 73) [.ref q0, .int x1, .ref q2] h 0 0 P := by
  unfold wp_AL_set at H
  refine Ct.of (lv := [some (.ref q0), some (.int x1), some (.ref q2), none]) (by decide) (Nat.le_of_ble_eq_true rfl) rfl (fun p e s m args below meth c => ?_)
  refine g_iload_n d_AL_set_0 rfl ?_
  refine g_aload_n d_AL_set_1 rfl ?_
  obtain ⟨z_1, H⟩ := H
  refine g_getI d_AL_set_2 f_AL_48 z_1 ?_
  obtain ⟨P_2, C_3, H⟩ := H
  refine q_S (As := [.int x1, .int (hI h q0 1)]) (st := []) (nl := 2) d_AL_set_5 v_AL_118 C_3 rfl (catS_le (Nat.le_of_ble_eq_true rfl)) rfl ⟨by omega, by omega, Nat.le_refl _, Nat.le_refl _⟩ (fun r_8 h_4 p_5 => ?_)
  obtain ⟨x_6, rfl, p_5⟩ := p_5
  replace H := H x_6 h_4 p_5
  show Go _ _ _ _ [.int x_6] _ _ _
  refine g_pop d_AL_set_8 rfl ?_
  refine g_aload_n d_AL_set_9 rfl ?_
  refine g_iload_n d_AL_set_10 rfl ?_
  obtain ⟨z_9, H⟩ := H
  obtain ⟨P_10, C_11, H⟩ := H
  refine q_V (As := [.int x1]) (st := []) (nl := 2) d_AL_set_11 v_AL_123 C_11 z_9 rfl (catS_le (Nat.le_of_ble_eq_true rfl)) rfl ⟨by omega, by omega, Nat.le_refl _, Nat.le_refl _⟩ (fun r_16 h_12 p_13 => ?_)
  obtain ⟨o_14, rfl, p_13⟩ := p_13
  replace H := H o_14 h_12 p_13
  show Go _ _ _ _ [va_rf o_14] _ _ _
  refine g_astore_nV (lv' := [some (.ref q0), some (.int x1), some (.ref q2), some (va_rf o_14)]) d_AL_set_14 (by decide) rfl ?_
  refine g_aload_n d_AL_set_15 rfl ?_
  obtain ⟨z_17, H⟩ := H
  refine g_getR d_AL_set_16 f_AL_9 z_17 (by decide) ?_
  refine g_iload_n d_AL_set_19 rfl ?_
  refine g_aload_n d_AL_set_20 rfl ?_
  obtain ⟨q_18, e_19, H⟩ := H
  show Go _ _ _ [some (.ref q0), some (.int x1), some (.ref q2), some (va_rf o_14)] [.ref q2, .int x1, va_rf (hR h_12 q0 0)] _ _ _
  rw [show va_rf (hR h_12 q0 0) = Value.ref q_18 from by rw [e_19]; rfl]
  obtain ⟨N_20, H⟩ := H
  obtain ⟨j_21, H⟩ := H
  obtain ⟨z_22, H⟩ := H
  obtain ⟨u_23, H⟩ := H
  obtain ⟨u_23a, u_23b, u_23c, u_23d, u_23e⟩ := u_23
  refine g_aast d_AL_set_21 z_22.1 (by decide) u_23c u_23d u_23e z_22.2.1 z_22.2.2.1 z_22.2.2.2 ?_
  refine g_aload_nV d_AL_set_22 rfl ?_
  exact g_areturn (x := o_14) d_AL_set_23 rfl (Or.inl ⟨_, rfl⟩) (Nat.le_refl _) (Nat.le_refl _) ⟨_, rfl, H⟩
def wp_AL_size (G : Gx) (l : Launch) (d w : Nat) (P : Int32 → Hp → Prop) (q0 : Nat) (h : Hp) : Prop := (hS h q0 = some (12, 0)) ∧ (P (hI h q0 1) h)
set_option maxRecDepth 100000 in
set_option maxHeartbeats 4000000 in
theorem ok_AL_size {G : Gx} {l : Launch} {d w : Nat} {P : Int32 → Hp → Prop} {q0 : Nat} {h : Hp} (H : wp_AL_size G l d w P q0 h) : Ci G l M_AL_size (d + 0) (w + 0) [.ref q0] h 0 0 P := by
  unfold wp_AL_size at H
  refine Ct.of (lv := [some (.ref q0)]) (by decide) (Nat.le_of_ble_eq_true rfl) rfl (fun p e s m args below meth c => ?_)
  refine g_aload_n d_AL_size_0 rfl ?_
  obtain ⟨z_1, H⟩ := H
  refine g_getI d_AL_size_1 f_AL_48 z_1 ?_
  exact g_ireturn d_AL_size_4 rfl (Nat.le_refl _) (Nat.le_refl _) ⟨_, rfl, H⟩
def wp_Ar_copyOf (G : Gx) (l : Launch) (d w mc ms : Nat) (P : Option Nat → Hp → Prop) (q0 : Nat) (x1 : Int32) (h : Hp) : Prop := ∃ N_1 : Nat, (hS h q0 = some (3, N_1)) ∧ (∃ mc_8 : Nat, ∃ ms_9 : Nat, ∃ P_3 : Option Nat → Hp → Prop, (Cr G l M_Ar_copyOf1 (d + 1) (w + 30) [.ref q0, .int x1, .ref (gK G 8)] h mc_8 ms_9 P_3) ∧ ((0 + mc_8 ≤ mc ∧ 0 + ms_9 ≤ ms) ∧ (∀ (o_7 : Option Nat) (h_5 : Hp), P_3 o_7 h_5 → ((0 + mc_8) ≤ mc ∧ (0 + ms_9) ≤ ms) ∧ (P o_7 h_5))))
set_option maxRecDepth 100000 in
set_option maxHeartbeats 4000000 in
theorem ok_Ar_copyOf {G : Gx} {l : Launch} {d w : Nat} {mc ms : Nat} {P : Option Nat → Hp → Prop} {q0 : Nat} {x1 : Int32} {h : Hp} (H : wp_Ar_copyOf G l d w mc ms P q0 x1 h) : Cr G l M_Ar_copyOf (d + 2) (w + 53) [.ref q0, .int x1] h mc ms P := by
  unfold wp_Ar_copyOf at H
  refine Ct.of (lv := [some (.ref q0), some (.int x1)]) (by decide) (Nat.le_of_ble_eq_true rfl) rfl (fun p e s m args below meth c => ?_)
  refine g_aload_n d_Ar_copyOf_0 rfl ?_
  refine g_iload_n d_Ar_copyOf_1 rfl ?_
  refine g_aload_n d_Ar_copyOf_2 rfl ?_
  obtain ⟨N_1, H⟩ := H
  obtain ⟨z_2, H⟩ := H
  refine g_getC d_Ar_copyOf_3 kz_Ar_86 kz_dg kz_vg kz_ig kz_ng z_2 (catS_le (Nat.le_of_ble_eq_true rfl)) ⟨show 1 ≤ d + 2 by omega, show 22 ≤ w + 53 by omega⟩ ?_
  obtain ⟨mc_8, H⟩ := H
  obtain ⟨ms_9, H⟩ := H
  obtain ⟨P_3, C_4, H⟩ := H
  obtain ⟨b_10, H⟩ := H
  refine q_S (As := [.ref q0, .int x1, .ref (gK G 8)]) (st := []) (nl := 4) d_Ar_copyOf_6 v_Ar_300 C_4 rfl (catS_le (Nat.le_of_ble_eq_true rfl)) rfl ⟨by omega, by omega, b_10.1, b_10.2⟩ (fun r_11 h_5 p_6 => ?_)
  obtain ⟨o_7, rfl, p_6⟩ := p_6
  replace H := H o_7 h_5 p_6
  show Go _ _ _ _ [va_rf o_7] _ _ _
  obtain ⟨b_12, H⟩ := H
  exact g_areturn (x := o_7) d_Ar_copyOf_9 rfl (Or.inr ⟨_, rfl⟩) b_12.1 b_12.2 ⟨_, rfl, H⟩
def wJ_Ar_copyOf1_24 (G : Gx) (l : Launch) (d w mc ms : Nat) (P : Option Nat → Hp → Prop) (q0 : Nat) (x1 : Int32) (q2 : Nat) (sq0 : Nat) (h : Hp) (k n : Nat) : Prop := ∃ N_1 : Nat, (hS h q0 = some (3, N_1) ∨ (q0 = gK G 0 ∧ N_1 = 0)) ∧ ((k ≤ mc ∧ n ≤ ms) ∧ (∃ N_5 : Nat, ∃ N_6 : Nat, ∃ j_7 : Nat, ∃ j_8 : Nat, ∃ j_9 : Nat, (hS h q0 = some (3, N_5) ∧ hS h sq0 = some (3, N_6) ∧ 0 = nI j_7 ∧ 0 = nI j_8 ∧ (if x1 < (nI N_1) then x1 else (nI N_1)) = nI j_9 ∧ j_7 + j_9 ≤ N_5 ∧ j_8 + j_9 ≤ N_6 ∧ N_5 < 2147483648 ∧ N_6 < 2147483648 ∧ ∀ i, i < j_9 → ∀ y, hR h q0 (j_7 + i) = some y → ObjA G h y 3) ∧ ((k ≤ mc ∧ n ≤ ms) ∧ (P (some sq0) (pA h sq0 (va_cpy (hR h q0) (hR h sq0) j_7 j_8 j_9))))))
set_option maxRecDepth 100000 in
set_option maxHeartbeats 4000000 in
theorem okJ_Ar_copyOf1_24 {G : Gx} {l : Launch} {d w : Nat} {mc ms : Nat} {P : Option Nat → Hp → Prop} {p : Program} {e : Env} {s : State} {m : MethodId} {args : Array Value} {below : List Frame} {meth : Method} {c : Code} {q0 : Nat} {x1 : Int32} {q2 : Nat} {sq0 : Nat} {h : Hp} {k n : Nat} (H : wJ_Ar_copyOf1_24 G l d w mc ms P  q0 x1 q2 sq0 h k n) : Go M_Ar_copyOf1 (mkX G (fun r h' => ∃ x, r = some (va_rf x) ∧ P x h') (d + 1) (w + 30) mc ms p l e s m args below meth c) 24 [some (.ref q0), some (.int x1), some (.ref q2), none] [.ref sq0] h k n := by
  unfold wJ_Ar_copyOf1_24 at H
  refine g_astore_n (lv' := [some (.ref q0), some (.int x1), some (.ref q2), some (.ref sq0)]) d_Ar_copyOf1_24 (by decide) rfl ?_
  refine g_aload_n d_Ar_copyOf1_25 rfl ?_
  refine g_iconst (v := 0) d_Ar_copyOf1_26 (by decide) ?_
  refine g_aload_n d_Ar_copyOf1_27 rfl ?_
  refine g_iconst (v := 0) d_Ar_copyOf1_28 (by decide) ?_
  refine g_aload_n d_Ar_copyOf1_29 rfl ?_
  obtain ⟨N_1, H⟩ := H
  obtain ⟨z_2, H⟩ := H
  refine g_alenO d_Ar_copyOf1_30 z_2 ?_
  refine g_iload_n d_Ar_copyOf1_31 rfl ?_
  obtain ⟨b_3, H⟩ := H
  refine g_min d_Ar_copyOf1_32 kz_Ar_304 (catS_le (Nat.le_of_ble_eq_true rfl)) ⟨show 1 ≤ d + 1 by omega, show 21 ≤ w + 30 by omega, b_3.1, b_3.2⟩ kz_sm kz_im kz_cm ?_
  obtain ⟨N_5, H⟩ := H
  obtain ⟨N_6, H⟩ := H
  obtain ⟨j_7, H⟩ := H
  obtain ⟨j_8, H⟩ := H
  obtain ⟨j_9, H⟩ := H
  obtain ⟨z_4, H⟩ := H
  refine g_acopy d_Ar_copyOf1_35 kz_Ar_150 kz_nc kz_sc kz_is z_4.1 z_4.2.1 z_4.2.2.1 z_4.2.2.2.1 z_4.2.2.2.2.1 z_4.2.2.2.2.2.1 z_4.2.2.2.2.2.2.1 ⟨z_4.2.2.2.2.2.2.2.1, z_4.2.2.2.2.2.2.2.2.1⟩ z_4.2.2.2.2.2.2.2.2.2 (catS_le (Nat.le_of_ble_eq_true rfl)) ⟨show 1 ≤ d + 1 by omega, show _ ≤ w + 30 from Nat.le_trans (by decide : _ ≤ 30) (by omega)⟩ ?_
  refine g_aload_n d_Ar_copyOf1_38 rfl ?_
  obtain ⟨b_10, H⟩ := H
  exact g_areturn (x := (some sq0)) d_Ar_copyOf1_39 rfl (Or.inr ⟨_, rfl⟩) b_10.1 b_10.2 ⟨_, rfl, H⟩
def wp_Ar_copyOf1 (G : Gx) (l : Launch) (d w mc ms : Nat) (P : Option Nat → Hp → Prop) (q0 : Nat) (x1 : Int32) (q2 : Nat) (h : Hp) : Prop := (¬ (some q2) = (some (gK G 8)) → False) ∧ ((some q2) = (some (gK G 8)) → ∃ N_14 : Nat, (x1 = nI N_14 ∧ N_14 * 4 ≤ 536870912) ∧ ((0 + 1 ≤ mc ∧ 0 + N_14 ≤ ms) ∧ (∀ q_12 : Nat, Fre h q_12 → wJ_Ar_copyOf1_24 G l d w mc ms P q0 x1 q2 q_12 (pN h q_12 (3, N_14)) (0 + 1) (0 + N_14))))
set_option maxRecDepth 100000 in
set_option maxHeartbeats 4000000 in
theorem ok_Ar_copyOf1 {G : Gx} {l : Launch} {d w : Nat} {mc ms : Nat} {P : Option Nat → Hp → Prop} {q0 : Nat} {x1 : Int32} {q2 : Nat} {h : Hp} (H : wp_Ar_copyOf1 G l d w mc ms P q0 x1 q2 h) : Cr G l M_Ar_copyOf1 (d + 1) (w + 30) [.ref q0, .int x1, .ref q2] h mc ms P := by
  unfold wp_Ar_copyOf1 at H
  refine Ct.of (lv := [some (.ref q0), some (.int x1), some (.ref q2), none]) (by decide) (Nat.le_of_ble_eq_true rfl) rfl (fun p e s m args below meth c => ?_)
  refine g_aload_n d_Ar_copyOf1_0 rfl ?_
  refine g_ldcM d_Ar_copyOf1_1 k_Ar_110 ?_
  obtain ⟨H1, H2⟩ := H
  refine g_acmp_ne (x := (some q2)) (y := (some (gK G 8))) (tgt := 13) d_Ar_copyOf1_3 (by decide) (fun c_11 => ?_) (fun c_11 => ?_)
  · have H := H1 c_11
    refine g_aload_n d_Ar_copyOf1_13 rfl ?_
    exact H.elim
  · have H := H2 c_11
    refine g_iload_n d_Ar_copyOf1_6 rfl ?_
    obtain ⟨N_14, H⟩ := H
    obtain ⟨z_15, H⟩ := H
    obtain ⟨b_13, H⟩ := H
    refine g_anew (t := 3) d_Ar_copyOf1_7 (by decide) k_Ar_2 kO_3 z_15.1 z_15.2 b_13.1 b_13.2 (fun q_12 Fq_12 => ?_)
    replace H := H q_12 Fq_12
    have z_16 : hS (pN h q_12 (3, N_14)) q_12 = some (3, N_14) := Fre.new
    refine g_goto (tgt := 24) d_Ar_copyOf1_10 (by decide) ?_
    refine g_msk [true, true, true, false] ?_
    exact okJ_Ar_copyOf1_24 H
def wp_Ob_checkIndex (G : Gx) (l : Launch) (d w : Nat) (P : Int32 → Hp → Prop) (x0 : Int32) (x1 : Int32) (h : Hp) : Prop := ∃ P_1 : Int32 → Hp → Prop, (Ci G l M_Pre_checkIndex (d + 1) (w + 30) [.int x0, .int x1, .null] h 0 0 P_1) ∧ (∀ (x_5 : Int32) (h_3 : Hp), P_1 x_5 h_3 → P x_5 h_3)
set_option maxRecDepth 100000 in
set_option maxHeartbeats 4000000 in
theorem ok_Ob_checkIndex {G : Gx} {l : Launch} {d w : Nat} {P : Int32 → Hp → Prop} {x0 : Int32} {x1 : Int32} {h : Hp} (H : wp_Ob_checkIndex G l d w P x0 x1 h) : Ci G l M_Ob_checkIndex (d + 2) (w + 52) [.int x0, .int x1] h 0 0 P := by
  unfold wp_Ob_checkIndex at H
  refine Ct.of (lv := [some (.int x0), some (.int x1)]) (by decide) (Nat.le_of_ble_eq_true rfl) rfl (fun p e s m args below meth c => ?_)
  refine g_iload_n d_Ob_checkIndex_0 rfl ?_
  refine g_iload_n d_Ob_checkIndex_1 rfl ?_
  refine g_null d_Ob_checkIndex_2 ?_
  obtain ⟨P_1, C_2, H⟩ := H
  refine q_S (As := [.int x0, .int x1, .null]) (st := []) (nl := 3) d_Ob_checkIndex_3 v_Ob_105 C_2 rfl (catS_le (Nat.le_of_ble_eq_true rfl)) rfl ⟨by omega, by omega, Nat.le_refl _, Nat.le_refl _⟩ (fun r_7 h_3 p_4 => ?_)
  obtain ⟨x_5, rfl, p_4⟩ := p_4
  replace H := H x_5 h_3 p_4
  show Go _ _ _ _ [.int x_5] _ _ _
  exact g_ireturn d_Ob_checkIndex_6 rfl (Nat.le_refl _) (Nat.le_refl _) ⟨_, rfl, H⟩
def wJ_AS_newLength_21 (G : Gx) (l : Launch) (d w : Nat) (P : Int32 → Hp → Prop) (x0 : Int32) (x1 : Int32) (x2 : Int32) (x3 : Int32) (h : Hp)  : Prop := ∃ P_1 : Int32 → Hp → Prop, (Ci G l M_AS_hugeLength (d + 1) (w + 30) [.int x0, .int x1] h 0 0 P_1) ∧ (∀ (x_5 : Int32) (h_3 : Hp), P_1 x_5 h_3 → P x_5 h_3)
set_option maxRecDepth 100000 in
set_option maxHeartbeats 4000000 in
theorem okJ_AS_newLength_21 {G : Gx} {l : Launch} {d w : Nat} {P : Int32 → Hp → Prop} {p : Program} {e : Env} {s : State} {m : MethodId} {args : Array Value} {below : List Frame} {meth : Method} {c : Code} {x0 : Int32} {x1 : Int32} {x2 : Int32} {x3 : Int32} {h : Hp}  (H : wJ_AS_newLength_21 G l d w P  x0 x1 x2 x3 h ) : Go M_AS_newLength (mkX G (fun r h' => ∃ x, r = some (.int x) ∧ P x h') (d + 2) (w + 52) 0 0 p l e s m args below meth c) 21 [some (.int x0), some (.int x1), some (.int x2), some (.int x3)] [] h 0 0 := by
  unfold wJ_AS_newLength_21 at H
  refine g_iload_n d_AS_newLength_21 rfl ?_
  refine g_iload_n d_AS_newLength_22 rfl ?_
  obtain ⟨P_1, C_2, H⟩ := H
  refine q_S (As := [.int x0, .int x1]) (st := []) (nl := 3) d_AS_newLength_23 v_AS_201 C_2 rfl (catS_le (Nat.le_of_ble_eq_true rfl)) rfl ⟨by omega, by omega, Nat.le_refl _, Nat.le_refl _⟩ (fun r_7 h_3 p_4 => ?_)
  obtain ⟨x_5, rfl, p_4⟩ := p_4
  replace H := H x_5 h_3 p_4
  show Go _ _ _ _ [.int x_5] _ _ _
  exact g_ireturn d_AS_newLength_26 rfl (Nat.le_refl _) (Nat.le_refl _) ⟨_, rfl, H⟩
def wp_AS_newLength (G : Gx) (l : Launch) (d w : Nat) (P : Int32 → Hp → Prop) (x0 : Int32) (x1 : Int32) (x2 : Int32) (h : Hp) : Prop := ∀ x_9 : Int32, x_9 = (x0 + (if x1 < x2 then x2 else x1)) → (x_9 ≤ 0 → wJ_AS_newLength_21 G l d w P x0 x1 x2 x_9 h) ∧ (¬ x_9 ≤ 0 → (2147483639 < x_9 → wJ_AS_newLength_21 G l d w P x0 x1 x2 x_9 h) ∧ (¬ 2147483639 < x_9 → P x_9 h))
set_option maxRecDepth 100000 in
set_option maxHeartbeats 4000000 in
theorem ok_AS_newLength {G : Gx} {l : Launch} {d w : Nat} {P : Int32 → Hp → Prop} {x0 : Int32} {x1 : Int32} {x2 : Int32} {h : Hp} (H : wp_AS_newLength G l d w P x0 x1 x2 h) : Ci G l M_AS_newLength (d + 2) (w + 52) [.int x0, .int x1, .int x2] h 0 0 P := by
  unfold wp_AS_newLength at H
  refine Ct.of (lv := [some (.int x0), some (.int x1), some (.int x2), none]) (by decide) (Nat.le_of_ble_eq_true rfl) rfl (fun p e s m args below meth c => ?_)
  refine g_iload_n d_AS_newLength_0 rfl ?_
  refine g_iload_n d_AS_newLength_1 rfl ?_
  refine g_iload_n d_AS_newLength_2 rfl ?_
  refine g_max d_AS_newLength_3 kz_AS_194 (catS_le (Nat.le_of_ble_eq_true rfl)) ⟨show 1 ≤ d + 2 by omega, show 21 ≤ w + 52 by omega, Nat.le_refl _, Nat.le_refl _⟩ kz_sx kz_im kz_cx ?_
  refine g_iadd d_AS_newLength_6 ?_
  refine g_topi (fun x_9 ex_9 => ?_)
  replace H := H x_9 ex_9
  refine g_istore_n (lv' := [some (.int x0), some (.int x1), some (.int x2), some (.int x_9)]) d_AS_newLength_7 (by decide) rfl ?_
  refine g_iconst (v := 0) d_AS_newLength_8 (by decide) ?_
  refine g_iload_n d_AS_newLength_9 rfl ?_
  obtain ⟨H1, H2⟩ := H
  refine g_icmp_ge (tgt := 21) d_AS_newLength_10 (by decide) (fun c_10 => ?_) (fun c_10 => ?_)
  · have H := H1 c_10
    refine g_msk [true, true, true, true] ?_
    exact okJ_AS_newLength_21 H
  · have H := H2 c_10
    refine g_iload_n d_AS_newLength_13 rfl ?_
    refine g_ldc d_AS_newLength_14 k_AS_200 ?_
    obtain ⟨H1, H2⟩ := H
    refine g_icmp_gt (tgt := 21) d_AS_newLength_16 (by decide) (fun c_11 => ?_) (fun c_11 => ?_)
    · have H := H1 c_11
      refine g_msk [true, true, true, true] ?_
      exact okJ_AS_newLength_21 H
    · have H := H2 c_11
      refine g_iload_n d_AS_newLength_19 rfl ?_
      exact g_ireturn d_AS_newLength_20 rfl (Nat.le_refl _) (Nat.le_refl _) ⟨_, rfl, H⟩
def wJ_Pre_checkIndex_9 (G : Gx) (l : Launch) (d w : Nat) (P : Int32 → Hp → Prop) (x0 : Int32) (x1 : Int32) (o2 : Option Nat) (h : Hp)  : Prop := False
set_option maxRecDepth 100000 in
set_option maxHeartbeats 4000000 in
theorem okJ_Pre_checkIndex_9 {G : Gx} {l : Launch} {d w : Nat} {P : Int32 → Hp → Prop} {p : Program} {e : Env} {s : State} {m : MethodId} {args : Array Value} {below : List Frame} {meth : Method} {c : Code} {x0 : Int32} {x1 : Int32} {o2 : Option Nat} {h : Hp}  (H : wJ_Pre_checkIndex_9 G l d w P  x0 x1 o2 h ) : Go M_Pre_checkIndex (mkX G (fun r h' => ∃ x, r = some (.int x) ∧ P x h') (d + 1) (w + 30) 0 0 p l e s m args below meth c) 9 [some (.int x0), some (.int x1), some (va_rf o2)] [] h 0 0 := by
  unfold wJ_Pre_checkIndex_9 at H
  refine g_aload_nV d_Pre_checkIndex_9 rfl ?_
  refine g_iload_n d_Pre_checkIndex_10 rfl ?_
  refine g_iload_n d_Pre_checkIndex_11 rfl ?_
  exact H.elim
def wp_Pre_checkIndex (G : Gx) (l : Launch) (d w : Nat) (P : Int32 → Hp → Prop) (x0 : Int32) (x1 : Int32) (o2 : Option Nat) (h : Hp) : Prop := (x0 < 0 → wJ_Pre_checkIndex_9 G l d w P x0 x1 o2 h) ∧ (¬ x0 < 0 → (x0 < x1 → P x0 h) ∧ (¬ x0 < x1 → wJ_Pre_checkIndex_9 G l d w P x0 x1 o2 h))
set_option maxRecDepth 100000 in
set_option maxHeartbeats 4000000 in
theorem ok_Pre_checkIndex {G : Gx} {l : Launch} {d w : Nat} {P : Int32 → Hp → Prop} {x0 : Int32} {x1 : Int32} {o2 : Option Nat} {h : Hp} (H : wp_Pre_checkIndex G l d w P x0 x1 o2 h) : Ci G l M_Pre_checkIndex (d + 1) (w + 30) [.int x0, .int x1, va_rf o2] h 0 0 P := by
  unfold wp_Pre_checkIndex at H
  refine Ct.of (lv := [some (.int x0), some (.int x1), some (va_rf o2)]) (by decide) (by cases o2 <;> exact Nat.le_of_ble_eq_true rfl) (by cases o2 <;> rfl) (fun p e s m args below meth c => ?_)
  refine g_iload_n d_Pre_checkIndex_0 rfl ?_
  obtain ⟨H1, H2⟩ := H
  refine g_if_lt (tgt := 9) d_Pre_checkIndex_1 (by decide) (fun c_1 => ?_) (fun c_1 => ?_)
  · have H := H1 c_1
    refine g_msk [true, true, true] ?_
    exact okJ_Pre_checkIndex_9 H
  · have H := H2 c_1
    refine g_iload_n d_Pre_checkIndex_4 rfl ?_
    refine g_iload_n d_Pre_checkIndex_5 rfl ?_
    obtain ⟨H1, H2⟩ := H
    refine g_icmp_lt (tgt := 16) d_Pre_checkIndex_6 (by decide) (fun c_2 => ?_) (fun c_2 => ?_)
    · have H := H1 c_2
      refine g_iload_n d_Pre_checkIndex_16 rfl ?_
      exact g_ireturn d_Pre_checkIndex_17 rfl (Nat.le_refl _) (Nat.le_refl _) ⟨_, rfl, H⟩
    · have H := H2 c_2
      refine g_msk [true, true, true] ?_
      exact okJ_Pre_checkIndex_9 H
end
