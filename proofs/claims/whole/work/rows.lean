section
-- ===== PART A: goes FIRST, ahead of the names: the tables' words, and 'selects' of the private methods out of them =====
/-- a private method of a class that the tables say can be made, by its rows of tables_1 -/
def lw_okq (q : MethodName × Nat) : Prop := (q.1.cls ≠ "java/lang/invoke/MethodHandle" ∧ q.1.cls ≠ "java/lang/invoke/VarHandle") ∧ Cond.instantiable q.1.cls q.2 ∈ tables_1 ∧ Cond.privateMethod q.1 ∈ tables_1 ∧ Cond.instanceMethod q.1 ∈ tables_1
theorem lw_p0 : lw_okq (⟨"IceYard", "sheetAt", "(I)LIceYard$Sheet;"⟩, 13) := ⟨⟨by decide +kernel, by decide +kernel⟩, List.mem_of_getElem? (i := 16) (by decide +kernel), List.mem_of_getElem? (i := 287) (by decide +kernel), List.mem_of_getElem? (i := 288) (by decide +kernel)⟩
theorem lw_p1 : lw_okq (⟨"IceYard", "faulty", "(I)I"⟩, 13) := ⟨⟨by decide +kernel, by decide +kernel⟩, List.mem_of_getElem? (i := 16) (by decide +kernel), List.mem_of_getElem? (i := 306) (by decide +kernel), List.mem_of_getElem? (i := 307) (by decide +kernel)⟩
theorem lw_p2 : lw_okq (⟨"IceYard", "takeYard", "(LIceYard$Sheet;II)V"⟩, 13) := ⟨⟨by decide +kernel, by decide +kernel⟩, List.mem_of_getElem? (i := 16) (by decide +kernel), List.mem_of_getElem? (i := 333) (by decide +kernel), List.mem_of_getElem? (i := 334) (by decide +kernel)⟩
theorem lw_p3 : lw_okq (⟨"IceYard$Ground", "layCell", "(II)V"⟩, 13) := ⟨⟨by decide +kernel, by decide +kernel⟩, List.mem_of_getElem? (i := 24) (by decide +kernel), List.mem_of_getElem? (i := 343) (by decide +kernel), List.mem_of_getElem? (i := 344) (by decide +kernel)⟩
theorem lw_p4 : lw_okq (⟨"IceYard$Ground", "layCrack", "(I)V"⟩, 13) := ⟨⟨by decide +kernel, by decide +kernel⟩, List.mem_of_getElem? (i := 24) (by decide +kernel), List.mem_of_getElem? (i := 347) (by decide +kernel), List.mem_of_getElem? (i := 348) (by decide +kernel)⟩
theorem lw_p5 : lw_okq (⟨"IceYard$Ground", "layBlock", "(II)V"⟩, 13) := ⟨⟨by decide +kernel, by decide +kernel⟩, List.mem_of_getElem? (i := 24) (by decide +kernel), List.mem_of_getElem? (i := 352) (by decide +kernel), List.mem_of_getElem? (i := 353) (by decide +kernel)⟩
theorem lw_p6 : lw_okq (⟨"IceYard$Ground", "layWays", "()V"⟩, 13) := ⟨⟨by decide +kernel, by decide +kernel⟩, List.mem_of_getElem? (i := 24) (by decide +kernel), List.mem_of_getElem? (i := 356) (by decide +kernel), List.mem_of_getElem? (i := 357) (by decide +kernel)⟩
theorem lw_p7 : lw_okq (⟨"IceYard$Ground", "layWay", "(IIZI)V"⟩, 13) := ⟨⟨by decide +kernel, by decide +kernel⟩, List.mem_of_getElem? (i := 24) (by decide +kernel), List.mem_of_getElem? (i := 360) (by decide +kernel), List.mem_of_getElem? (i := 361) (by decide +kernel)⟩
theorem lw_p8 : lw_okq (⟨"IceYard", "refusalOfPush", "(II)I"⟩, 13) := ⟨⟨by decide +kernel, by decide +kernel⟩, List.mem_of_getElem? (i := 16) (by decide +kernel), List.mem_of_getElem? (i := 425) (by decide +kernel), List.mem_of_getElem? (i := 426) (by decide +kernel)⟩
theorem lw_p9 : lw_okq (⟨"IceYard$Slider", "load", "(J)V"⟩, 10) := ⟨⟨by decide +kernel, by decide +kernel⟩, List.mem_of_getElem? (i := 83) (by decide +kernel), List.mem_of_getElem? (i := 433) (by decide +kernel), List.mem_of_getElem? (i := 434) (by decide +kernel)⟩
theorem lw_p10 : lw_okq (⟨"IceYard$Slider", "slideOne", "(II)I"⟩, 10) := ⟨⟨by decide +kernel, by decide +kernel⟩, List.mem_of_getElem? (i := 83) (by decide +kernel), List.mem_of_getElem? (i := 440) (by decide +kernel), List.mem_of_getElem? (i := 441) (by decide +kernel)⟩
theorem lw_p11 : lw_okq (⟨"IceYard$Slider", "blockIn", "(I)I"⟩, 10) := ⟨⟨by decide +kernel, by decide +kernel⟩, List.mem_of_getElem? (i := 83) (by decide +kernel), List.mem_of_getElem? (i := 451) (by decide +kernel), List.mem_of_getElem? (i := 452) (by decide +kernel)⟩
theorem lw_p12 : lw_okq (⟨"IceYard$Slider", "leave", "(II)V"⟩, 10) := ⟨⟨by decide +kernel, by decide +kernel⟩, List.mem_of_getElem? (i := 83) (by decide +kernel), List.mem_of_getElem? (i := 455) (by decide +kernel), List.mem_of_getElem? (i := 456) (by decide +kernel)⟩
theorem lw_p13 : lw_okq (⟨"IceYard$Search", "note", "(JII)Z"⟩, 9) := ⟨⟨by decide +kernel, by decide +kernel⟩, List.mem_of_getElem? (i := 133) (by decide +kernel), List.mem_of_getElem? (i := 498) (by decide +kernel), List.mem_of_getElem? (i := 499) (by decide +kernel)⟩
theorem lw_p14 : lw_okq (⟨"IceYard$Search", "slotOf", "(J)I"⟩, 9) := ⟨⟨by decide +kernel, by decide +kernel⟩, List.mem_of_getElem? (i := 133) (by decide +kernel), List.mem_of_getElem? (i := 502) (by decide +kernel), List.mem_of_getElem? (i := 503) (by decide +kernel)⟩
theorem lw_p15 : lw_okq (⟨"IceYard$Search", "goOnFrom", "(II)I"⟩, 9) := ⟨⟨by decide +kernel, by decide +kernel⟩, List.mem_of_getElem? (i := 133) (by decide +kernel), List.mem_of_getElem? (i := 507) (by decide +kernel), List.mem_of_getElem? (i := 508) (by decide +kernel)⟩
def lw_privs_1 : List (MethodName × Nat) := [(⟨"IceYard", "sheetAt", "(I)LIceYard$Sheet;"⟩, 13), (⟨"IceYard", "faulty", "(I)I"⟩, 13), (⟨"IceYard", "takeYard", "(LIceYard$Sheet;II)V"⟩, 13), (⟨"IceYard$Ground", "layCell", "(II)V"⟩, 13), (⟨"IceYard$Ground", "layCrack", "(I)V"⟩, 13), (⟨"IceYard$Ground", "layBlock", "(II)V"⟩, 13), (⟨"IceYard$Ground", "layWays", "()V"⟩, 13), (⟨"IceYard$Ground", "layWay", "(IIZI)V"⟩, 13), (⟨"IceYard", "refusalOfPush", "(II)I"⟩, 13), (⟨"IceYard$Slider", "load", "(J)V"⟩, 10), (⟨"IceYard$Slider", "slideOne", "(II)I"⟩, 10), (⟨"IceYard$Slider", "blockIn", "(I)I"⟩, 10), (⟨"IceYard$Slider", "leave", "(II)V"⟩, 10), (⟨"IceYard$Search", "note", "(JII)Z"⟩, 9), (⟨"IceYard$Search", "slotOf", "(J)I"⟩, 9), (⟨"IceYard$Search", "goOnFrom", "(II)I"⟩, 9)]
theorem lw_r1 : ∀ q ∈ lw_privs_1, lw_okq q := List.forall_mem_cons.mpr ⟨lw_p0, List.forall_mem_cons.mpr ⟨lw_p1, List.forall_mem_cons.mpr ⟨lw_p2, List.forall_mem_cons.mpr ⟨lw_p3, List.forall_mem_cons.mpr ⟨lw_p4, List.forall_mem_cons.mpr ⟨lw_p5, List.forall_mem_cons.mpr ⟨lw_p6, List.forall_mem_cons.mpr ⟨lw_p7, List.forall_mem_cons.mpr ⟨lw_p8, List.forall_mem_cons.mpr ⟨lw_p9, List.forall_mem_cons.mpr ⟨lw_p10, List.forall_mem_cons.mpr ⟨lw_p11, List.forall_mem_cons.mpr ⟨lw_p12, List.forall_mem_cons.mpr ⟨lw_p13, List.forall_mem_cons.mpr ⟨lw_p14, List.forall_mem_cons.mpr ⟨lw_p15, fun _ h => absurd h List.not_mem_nil⟩⟩⟩⟩⟩⟩⟩⟩⟩⟩⟩⟩⟩⟩⟩⟩
theorem lw_p16 : lw_okq (⟨"IceYard$Search", "writeRow", "(II)V"⟩, 9) := ⟨⟨by decide +kernel, by decide +kernel⟩, List.mem_of_getElem? (i := 133) (by decide +kernel), List.mem_of_getElem? (i := 515) (by decide +kernel), List.mem_of_getElem? (i := 516) (by decide +kernel)⟩
theorem lw_p17 : lw_okq (⟨"IceYard$Game", "winsWhateverComes", "(JII)Z"⟩, 2) := ⟨⟨by decide +kernel, by decide +kernel⟩, List.mem_of_getElem? (i := 168) (by decide +kernel), List.mem_of_getElem? (i := 536) (by decide +kernel), List.mem_of_getElem? (i := 537) (by decide +kernel)⟩
theorem lw_p18 : lw_okq (⟨"IceYard$RowCount", "walk", "(JIIJ)V"⟩, 6) := ⟨⟨by decide +kernel, by decide +kernel⟩, List.mem_of_getElem? (i := 181) (by decide +kernel), List.mem_of_getElem? (i := 557) (by decide +kernel), List.mem_of_getElem? (i := 558) (by decide +kernel)⟩
theorem lw_p19 : lw_okq (⟨"IceYard$RowCount", "countRow", "(I)V"⟩, 6) := ⟨⟨by decide +kernel, by decide +kernel⟩, List.mem_of_getElem? (i := 181) (by decide +kernel), List.mem_of_getElem? (i := 564) (by decide +kernel), List.mem_of_getElem? (i := 565) (by decide +kernel)⟩
theorem lw_p20 : lw_okq (⟨"IceYard$SandPlan", "bringsHome", "(JIII)Z"⟩, 3) := ⟨⟨by decide +kernel, by decide +kernel⟩, List.mem_of_getElem? (i := 206) (by decide +kernel), List.mem_of_getElem? (i := 581) (by decide +kernel), List.mem_of_getElem? (i := 582) (by decide +kernel)⟩
theorem lw_p21 : lw_okq (⟨"IceYard$SandPlan", "freeIce", "(J)J"⟩, 3) := ⟨⟨by decide +kernel, by decide +kernel⟩, List.mem_of_getElem? (i := 206) (by decide +kernel), List.mem_of_getElem? (i := 586) (by decide +kernel), List.mem_of_getElem? (i := 587) (by decide +kernel)⟩
theorem lw_p22 : lw_okq (⟨"IceYard$Sheet", "cut", "(I)I"⟩, 3) := ⟨⟨by decide +kernel, by decide +kernel⟩, List.mem_of_getElem? (i := 224) (by decide +kernel), List.mem_of_getElem? (i := 625) (by decide +kernel), List.mem_of_getElem? (i := 626) (by decide +kernel)⟩
theorem lw_p23 : lw_okq (⟨"IceYard", "tellSledge", "(I)I"⟩, 13) := ⟨⟨by decide +kernel, by decide +kernel⟩, List.mem_of_getElem? (i := 16) (by decide +kernel), List.mem_of_getElem? (i := 645) (by decide +kernel), List.mem_of_getElem? (i := 646) (by decide +kernel)⟩
theorem lw_p24 : lw_okq (⟨"IceYard", "leaveTrace", "(I)V"⟩, 13) := ⟨⟨by decide +kernel, by decide +kernel⟩, List.mem_of_getElem? (i := 16) (by decide +kernel), List.mem_of_getElem? (i := 649) (by decide +kernel), List.mem_of_getElem? (i := 650) (by decide +kernel)⟩
theorem lw_p25 : lw_okq (⟨"IceYard", "tellLog", "(I)I"⟩, 13) := ⟨⟨by decide +kernel, by decide +kernel⟩, List.mem_of_getElem? (i := 16) (by decide +kernel), List.mem_of_getElem? (i := 653) (by decide +kernel), List.mem_of_getElem? (i := 654) (by decide +kernel)⟩
theorem lw_p26 : lw_okq (⟨"IceYard", "tellBlock", "(I)I"⟩, 13) := ⟨⟨by decide +kernel, by decide +kernel⟩, List.mem_of_getElem? (i := 16) (by decide +kernel), List.mem_of_getElem? (i := 657) (by decide +kernel), List.mem_of_getElem? (i := 658) (by decide +kernel)⟩
theorem lw_p27 : lw_okq (⟨"IceYardModel", "refused", "(I)I"⟩, 52) := ⟨⟨by decide +kernel, by decide +kernel⟩, List.mem_of_getElem? (i := 689) (by decide +kernel), List.mem_of_getElem? (i := 864) (by decide +kernel), List.mem_of_getElem? (i := 865) (by decide +kernel)⟩
theorem lw_p28 : lw_okq (⟨"IceYardModel", "failed", "(I)I"⟩, 52) := ⟨⟨by decide +kernel, by decide +kernel⟩, List.mem_of_getElem? (i := 689) (by decide +kernel), List.mem_of_getElem? (i := 869) (by decide +kernel), List.mem_of_getElem? (i := 870) (by decide +kernel)⟩
theorem lw_p29 : lw_okq (⟨"IceYardModel", "readsYard", "(II)Z"⟩, 52) := ⟨⟨by decide +kernel, by decide +kernel⟩, List.mem_of_getElem? (i := 689) (by decide +kernel), List.mem_of_getElem? (i := 876) (by decide +kernel), List.mem_of_getElem? (i := 877) (by decide +kernel)⟩
theorem lw_p30 : lw_okq (⟨"IceYardModel", "codeAt", "(II)I"⟩, 52) := ⟨⟨by decide +kernel, by decide +kernel⟩, List.mem_of_getElem? (i := 689) (by decide +kernel), List.mem_of_getElem? (i := 880) (by decide +kernel), List.mem_of_getElem? (i := 881) (by decide +kernel)⟩
theorem lw_p31 : lw_okq (⟨"IceYardModel", "figure", "(II)I"⟩, 52) := ⟨⟨by decide +kernel, by decide +kernel⟩, List.mem_of_getElem? (i := 689) (by decide +kernel), List.mem_of_getElem? (i := 884) (by decide +kernel), List.mem_of_getElem? (i := 885) (by decide +kernel)⟩
def lw_privs_2 : List (MethodName × Nat) := [(⟨"IceYard$Search", "writeRow", "(II)V"⟩, 9), (⟨"IceYard$Game", "winsWhateverComes", "(JII)Z"⟩, 2), (⟨"IceYard$RowCount", "walk", "(JIIJ)V"⟩, 6), (⟨"IceYard$RowCount", "countRow", "(I)V"⟩, 6), (⟨"IceYard$SandPlan", "bringsHome", "(JIII)Z"⟩, 3), (⟨"IceYard$SandPlan", "freeIce", "(J)J"⟩, 3), (⟨"IceYard$Sheet", "cut", "(I)I"⟩, 3), (⟨"IceYard", "tellSledge", "(I)I"⟩, 13), (⟨"IceYard", "leaveTrace", "(I)V"⟩, 13), (⟨"IceYard", "tellLog", "(I)I"⟩, 13), (⟨"IceYard", "tellBlock", "(I)I"⟩, 13), (⟨"IceYardModel", "refused", "(I)I"⟩, 52), (⟨"IceYardModel", "failed", "(I)I"⟩, 52), (⟨"IceYardModel", "readsYard", "(II)Z"⟩, 52), (⟨"IceYardModel", "codeAt", "(II)I"⟩, 52), (⟨"IceYardModel", "figure", "(II)I"⟩, 52)]
theorem lw_r2 : ∀ q ∈ lw_privs_2, lw_okq q := List.forall_mem_cons.mpr ⟨lw_p16, List.forall_mem_cons.mpr ⟨lw_p17, List.forall_mem_cons.mpr ⟨lw_p18, List.forall_mem_cons.mpr ⟨lw_p19, List.forall_mem_cons.mpr ⟨lw_p20, List.forall_mem_cons.mpr ⟨lw_p21, List.forall_mem_cons.mpr ⟨lw_p22, List.forall_mem_cons.mpr ⟨lw_p23, List.forall_mem_cons.mpr ⟨lw_p24, List.forall_mem_cons.mpr ⟨lw_p25, List.forall_mem_cons.mpr ⟨lw_p26, List.forall_mem_cons.mpr ⟨lw_p27, List.forall_mem_cons.mpr ⟨lw_p28, List.forall_mem_cons.mpr ⟨lw_p29, List.forall_mem_cons.mpr ⟨lw_p30, List.forall_mem_cons.mpr ⟨lw_p31, fun _ h => absurd h List.not_mem_nil⟩⟩⟩⟩⟩⟩⟩⟩⟩⟩⟩⟩⟩⟩⟩⟩
theorem lw_p32 : lw_okq (⟨"IceYardModel", "readsSign", "(III)Z"⟩, 52) := ⟨⟨by decide +kernel, by decide +kernel⟩, List.mem_of_getElem? (i := 689) (by decide +kernel), List.mem_of_getElem? (i := 889) (by decide +kernel), List.mem_of_getElem? (i := 890) (by decide +kernel)⟩
theorem lw_p33 : lw_okq (⟨"IceYardModel", "cells", "()I"⟩, 52) := ⟨⟨by decide +kernel, by decide +kernel⟩, List.mem_of_getElem? (i := 689) (by decide +kernel), List.mem_of_getElem? (i := 896) (by decide +kernel), List.mem_of_getElem? (i := 897) (by decide +kernel)⟩
theorem lw_p34 : lw_okq (⟨"IceYardModel", "blockIn", "(I)I"⟩, 52) := ⟨⟨by decide +kernel, by decide +kernel⟩, List.mem_of_getElem? (i := 689) (by decide +kernel), List.mem_of_getElem? (i := 904) (by decide +kernel), List.mem_of_getElem? (i := 905) (by decide +kernel)⟩
theorem lw_p35 : lw_okq (⟨"IceYardModel", "whatIs", "(I)I"⟩, 52) := ⟨⟨by decide +kernel, by decide +kernel⟩, List.mem_of_getElem? (i := 689) (by decide +kernel), List.mem_of_getElem? (i := 908) (by decide +kernel), List.mem_of_getElem? (i := 909) (by decide +kernel)⟩
theorem lw_p36 : lw_okq (⟨"IceYardModel", "noBlock", "(I)Z"⟩, 52) := ⟨⟨by decide +kernel, by decide +kernel⟩, List.mem_of_getElem? (i := 689) (by decide +kernel), List.mem_of_getElem? (i := 916) (by decide +kernel), List.mem_of_getElem? (i := 917) (by decide +kernel)⟩
theorem lw_p37 : lw_okq (⟨"IceYardModel", "pushBarred", "(II)I"⟩, 52) := ⟨⟨by decide +kernel, by decide +kernel⟩, List.mem_of_getElem? (i := 689) (by decide +kernel), List.mem_of_getElem? (i := 924) (by decide +kernel), List.mem_of_getElem? (i := 925) (by decide +kernel)⟩
theorem lw_p38 : lw_okq (⟨"IceYardModel", "hold", "(I)V"⟩, 52) := ⟨⟨by decide +kernel, by decide +kernel⟩, List.mem_of_getElem? (i := 689) (by decide +kernel), List.mem_of_getElem? (i := 928) (by decide +kernel), List.mem_of_getElem? (i := 929) (by decide +kernel)⟩
theorem lw_p39 : lw_okq (⟨"IceYardModel", "goes", "(II)Z"⟩, 52) := ⟨⟨by decide +kernel, by decide +kernel⟩, List.mem_of_getElem? (i := 689) (by decide +kernel), List.mem_of_getElem? (i := 932) (by decide +kernel), List.mem_of_getElem? (i := 933) (by decide +kernel)⟩
theorem lw_p40 : lw_okq (⟨"IceYardModel", "slide", "(II)I"⟩, 52) := ⟨⟨by decide +kernel, by decide +kernel⟩, List.mem_of_getElem? (i := 689) (by decide +kernel), List.mem_of_getElem? (i := 936) (by decide +kernel), List.mem_of_getElem? (i := 937) (by decide +kernel)⟩
theorem lw_p41 : lw_okq (⟨"IceYardModel", "beside", "(II)I"⟩, 52) := ⟨⟨by decide +kernel, by decide +kernel⟩, List.mem_of_getElem? (i := 689) (by decide +kernel), List.mem_of_getElem? (i := 940) (by decide +kernel), List.mem_of_getElem? (i := 941) (by decide +kernel)⟩
theorem lw_p42 : lw_okq (⟨"IceYardModel", "give", "(I)V"⟩, 52) := ⟨⟨by decide +kernel, by decide +kernel⟩, List.mem_of_getElem? (i := 689) (by decide +kernel), List.mem_of_getElem? (i := 944) (by decide +kernel), List.mem_of_getElem? (i := 945) (by decide +kernel)⟩
theorem lw_p43 : lw_okq (⟨"IceYardModel", "yardNow", "()J"⟩, 52) := ⟨⟨by decide +kernel, by decide +kernel⟩, List.mem_of_getElem? (i := 689) (by decide +kernel), List.mem_of_getElem? (i := 976) (by decide +kernel), List.mem_of_getElem? (i := 977) (by decide +kernel)⟩
theorem lw_p44 : lw_okq (⟨"IceYardModel", "codeOf", "(I)I"⟩, 52) := ⟨⟨by decide +kernel, by decide +kernel⟩, List.mem_of_getElem? (i := 689) (by decide +kernel), List.mem_of_getElem? (i := 981) (by decide +kernel), List.mem_of_getElem? (i := 982) (by decide +kernel)⟩
theorem lw_p45 : lw_okq (⟨"IceYardModel", "addYard", "(JII)Z"⟩, 52) := ⟨⟨by decide +kernel, by decide +kernel⟩, List.mem_of_getElem? (i := 689) (by decide +kernel), List.mem_of_getElem? (i := 986) (by decide +kernel), List.mem_of_getElem? (i := 987) (by decide +kernel)⟩
theorem lw_p46 : lw_okq (⟨"IceYardModel", "placeFor", "(J)I"⟩, 52) := ⟨⟨by decide +kernel, by decide +kernel⟩, List.mem_of_getElem? (i := 689) (by decide +kernel), List.mem_of_getElem? (i := 990) (by decide +kernel), List.mem_of_getElem? (i := 991) (by decide +kernel)⟩
theorem lw_p47 : lw_okq (⟨"IceYardModel", "spread", "(II)I"⟩, 52) := ⟨⟨by decide +kernel, by decide +kernel⟩, List.mem_of_getElem? (i := 689) (by decide +kernel), List.mem_of_getElem? (i := 995) (by decide +kernel), List.mem_of_getElem? (i := 996) (by decide +kernel)⟩
def lw_privs_3 : List (MethodName × Nat) := [(⟨"IceYardModel", "readsSign", "(III)Z"⟩, 52), (⟨"IceYardModel", "cells", "()I"⟩, 52), (⟨"IceYardModel", "blockIn", "(I)I"⟩, 52), (⟨"IceYardModel", "whatIs", "(I)I"⟩, 52), (⟨"IceYardModel", "noBlock", "(I)Z"⟩, 52), (⟨"IceYardModel", "pushBarred", "(II)I"⟩, 52), (⟨"IceYardModel", "hold", "(I)V"⟩, 52), (⟨"IceYardModel", "goes", "(II)Z"⟩, 52), (⟨"IceYardModel", "slide", "(II)I"⟩, 52), (⟨"IceYardModel", "beside", "(II)I"⟩, 52), (⟨"IceYardModel", "give", "(I)V"⟩, 52), (⟨"IceYardModel", "yardNow", "()J"⟩, 52), (⟨"IceYardModel", "codeOf", "(I)I"⟩, 52), (⟨"IceYardModel", "addYard", "(JII)Z"⟩, 52), (⟨"IceYardModel", "placeFor", "(J)I"⟩, 52), (⟨"IceYardModel", "spread", "(II)I"⟩, 52)]
theorem lw_r3 : ∀ q ∈ lw_privs_3, lw_okq q := List.forall_mem_cons.mpr ⟨lw_p32, List.forall_mem_cons.mpr ⟨lw_p33, List.forall_mem_cons.mpr ⟨lw_p34, List.forall_mem_cons.mpr ⟨lw_p35, List.forall_mem_cons.mpr ⟨lw_p36, List.forall_mem_cons.mpr ⟨lw_p37, List.forall_mem_cons.mpr ⟨lw_p38, List.forall_mem_cons.mpr ⟨lw_p39, List.forall_mem_cons.mpr ⟨lw_p40, List.forall_mem_cons.mpr ⟨lw_p41, List.forall_mem_cons.mpr ⟨lw_p42, List.forall_mem_cons.mpr ⟨lw_p43, List.forall_mem_cons.mpr ⟨lw_p44, List.forall_mem_cons.mpr ⟨lw_p45, List.forall_mem_cons.mpr ⟨lw_p46, List.forall_mem_cons.mpr ⟨lw_p47, fun _ h => absurd h List.not_mem_nil⟩⟩⟩⟩⟩⟩⟩⟩⟩⟩⟩⟩⟩⟩⟩⟩
theorem lw_p48 : lw_okq (⟨"IceYardModel", "layYard", "(J)V"⟩, 52) := ⟨⟨by decide +kernel, by decide +kernel⟩, List.mem_of_getElem? (i := 689) (by decide +kernel), List.mem_of_getElem? (i := 999) (by decide +kernel), List.mem_of_getElem? (i := 1000) (by decide +kernel)⟩
theorem lw_p49 : lw_okq (⟨"IceYardModel", "wonIn", "(I)I"⟩, 52) := ⟨⟨by decide +kernel, by decide +kernel⟩, List.mem_of_getElem? (i := 689) (by decide +kernel), List.mem_of_getElem? (i := 1007) (by decide +kernel), List.mem_of_getElem? (i := 1008) (by decide +kernel)⟩
theorem lw_p50 : lw_okq (⟨"IceYardModel", "hasWon", "(II)Z"⟩, 52) := ⟨⟨by decide +kernel, by decide +kernel⟩, List.mem_of_getElem? (i := 689) (by decide +kernel), List.mem_of_getElem? (i := 1011) (by decide +kernel), List.mem_of_getElem? (i := 1012) (by decide +kernel)⟩
theorem lw_p51 : lw_okq (⟨"IceYardModel", "enter", "(I)V"⟩, 52) := ⟨⟨by decide +kernel, by decide +kernel⟩, List.mem_of_getElem? (i := 689) (by decide +kernel), List.mem_of_getElem? (i := 1015) (by decide +kernel), List.mem_of_getElem? (i := 1016) (by decide +kernel)⟩
theorem lw_p52 : lw_okq (⟨"IceYardModel", "isOwn", "(I)Z"⟩, 52) := ⟨⟨by decide +kernel, by decide +kernel⟩, List.mem_of_getElem? (i := 689) (by decide +kernel), List.mem_of_getElem? (i := 1019) (by decide +kernel), List.mem_of_getElem? (i := 1020) (by decide +kernel)⟩
theorem lw_p53 : lw_okq (⟨"IceYardModel", "tryNext", "(I)Z"⟩, 52) := ⟨⟨by decide +kernel, by decide +kernel⟩, List.mem_of_getElem? (i := 689) (by decide +kernel), List.mem_of_getElem? (i := 1023) (by decide +kernel), List.mem_of_getElem? (i := 1024) (by decide +kernel)⟩
theorem lw_p54 : lw_okq (⟨"IceYardModel", "learn", "(IZ)V"⟩, 52) := ⟨⟨by decide +kernel, by decide +kernel⟩, List.mem_of_getElem? (i := 689) (by decide +kernel), List.mem_of_getElem? (i := 1027) (by decide +kernel), List.mem_of_getElem? (i := 1028) (by decide +kernel)⟩
theorem lw_p55 : lw_okq (⟨"IceYardModel", "descend", "(I)V"⟩, 52) := ⟨⟨by decide +kernel, by decide +kernel⟩, List.mem_of_getElem? (i := 689) (by decide +kernel), List.mem_of_getElem? (i := 1031) (by decide +kernel), List.mem_of_getElem? (i := 1032) (by decide +kernel)⟩
theorem lw_p56 : lw_okq (⟨"IceYardModel", "goRow", "(II)Z"⟩, 52) := ⟨⟨by decide +kernel, by decide +kernel⟩, List.mem_of_getElem? (i := 689) (by decide +kernel), List.mem_of_getElem? (i := 1044) (by decide +kernel), List.mem_of_getElem? (i := 1045) (by decide +kernel)⟩
theorem lw_p57 : lw_okq (⟨"IceYardModel", "comesHome", "(III)Z"⟩, 52) := ⟨⟨by decide +kernel, by decide +kernel⟩, List.mem_of_getElem? (i := 689) (by decide +kernel), List.mem_of_getElem? (i := 1052) (by decide +kernel), List.mem_of_getElem? (i := 1053) (by decide +kernel)⟩
theorem lw_p58 : lw_okq (⟨"IceYardModel", "maySand", "(I)Z"⟩, 52) := ⟨⟨by decide +kernel, by decide +kernel⟩, List.mem_of_getElem? (i := 689) (by decide +kernel), List.mem_of_getElem? (i := 1056) (by decide +kernel), List.mem_of_getElem? (i := 1057) (by decide +kernel)⟩
theorem lw_p59 : lw_okq (⟨"IceYardModel", "noCell", "(II)I"⟩, 52) := ⟨⟨by decide +kernel, by decide +kernel⟩, List.mem_of_getElem? (i := 689) (by decide +kernel), List.mem_of_getElem? (i := 1077) (by decide +kernel), List.mem_of_getElem? (i := 1078) (by decide +kernel)⟩
theorem lw_p60 : lw_okq (⟨"IceYardModel", "failedLong", "(I)J"⟩, 52) := ⟨⟨by decide +kernel, by decide +kernel⟩, List.mem_of_getElem? (i := 689) (by decide +kernel), List.mem_of_getElem? (i := 1085) (by decide +kernel), List.mem_of_getElem? (i := 1086) (by decide +kernel)⟩
theorem lw_p61 : lw_okq (⟨"IceYardModel", "traced", "(I)V"⟩, 52) := ⟨⟨by decide +kernel, by decide +kernel⟩, List.mem_of_getElem? (i := 689) (by decide +kernel), List.mem_of_getElem? (i := 1097) (by decide +kernel), List.mem_of_getElem? (i := 1098) (by decide +kernel)⟩
theorem lw_p62 : lw_okq (⟨"IceYardModel", "cracksOpen", "()I"⟩, 52) := ⟨⟨by decide +kernel, by decide +kernel⟩, List.mem_of_getElem? (i := 689) (by decide +kernel), List.mem_of_getElem? (i := 1121) (by decide +kernel), List.mem_of_getElem? (i := 1122) (by decide +kernel)⟩
def lw_privs_4 : List (MethodName × Nat) := [(⟨"IceYardModel", "layYard", "(J)V"⟩, 52), (⟨"IceYardModel", "wonIn", "(I)I"⟩, 52), (⟨"IceYardModel", "hasWon", "(II)Z"⟩, 52), (⟨"IceYardModel", "enter", "(I)V"⟩, 52), (⟨"IceYardModel", "isOwn", "(I)Z"⟩, 52), (⟨"IceYardModel", "tryNext", "(I)Z"⟩, 52), (⟨"IceYardModel", "learn", "(IZ)V"⟩, 52), (⟨"IceYardModel", "descend", "(I)V"⟩, 52), (⟨"IceYardModel", "goRow", "(II)Z"⟩, 52), (⟨"IceYardModel", "comesHome", "(III)Z"⟩, 52), (⟨"IceYardModel", "maySand", "(I)Z"⟩, 52), (⟨"IceYardModel", "noCell", "(II)I"⟩, 52), (⟨"IceYardModel", "failedLong", "(I)J"⟩, 52), (⟨"IceYardModel", "traced", "(I)V"⟩, 52), (⟨"IceYardModel", "cracksOpen", "()I"⟩, 52)]
theorem lw_r4 : ∀ q ∈ lw_privs_4, lw_okq q := List.forall_mem_cons.mpr ⟨lw_p48, List.forall_mem_cons.mpr ⟨lw_p49, List.forall_mem_cons.mpr ⟨lw_p50, List.forall_mem_cons.mpr ⟨lw_p51, List.forall_mem_cons.mpr ⟨lw_p52, List.forall_mem_cons.mpr ⟨lw_p53, List.forall_mem_cons.mpr ⟨lw_p54, List.forall_mem_cons.mpr ⟨lw_p55, List.forall_mem_cons.mpr ⟨lw_p56, List.forall_mem_cons.mpr ⟨lw_p57, List.forall_mem_cons.mpr ⟨lw_p58, List.forall_mem_cons.mpr ⟨lw_p59, List.forall_mem_cons.mpr ⟨lw_p60, List.forall_mem_cons.mpr ⟨lw_p61, List.forall_mem_cons.mpr ⟨lw_p62, fun _ h => absurd h List.not_mem_nil⟩⟩⟩⟩⟩⟩⟩⟩⟩⟩⟩⟩⟩⟩⟩
def lw_privs : List (MethodName × Nat) := lw_privs_1 ++ (lw_privs_2 ++ (lw_privs_3 ++ (lw_privs_4)))
def lw_tbl : List Cond := k2_sels lw_privs ++ tables_1
theorem lw_privs_ok : ∀ q ∈ lw_privs, lw_okq q := by
  show ∀ q ∈ lw_privs_1 ++ (lw_privs_2 ++ (lw_privs_3 ++ (lw_privs_4))), lw_okq q
  exact List.forall_mem_append.mpr ⟨lw_r1, List.forall_mem_append.mpr ⟨lw_r2, List.forall_mem_append.mpr ⟨lw_r3, lw_r4⟩⟩⟩
/-! ===== BEGIN words of one list among another's, by their places ===== -/
/-! ===== END ===== -/

/-! ===== BEGIN printed: names, fields, word lists, decode rows ===== -/
def RX0 : String := "IceYard$Game"
def TX0 : u_T := fun k => match k with
  | 0 => ("IceYard$Game", "ground", "LIceYard$Ground;", true)
  | _ => ("IceYard$Game", "slider", "LIceYard$Slider;", true)
def tyX0 : Nat → FieldType := fun k => match k with
  | 0 => .object "IceYard$Ground"
  | _ => .object "IceYard$Slider"
abbrev wsX00 : List Cond := u_ws RX0 TX0 2
theorem nmX0 : ∀ a, a < 2 → ∀ b, b < 2 → a ≠ b → (TX0 a).2.1 ≠ (TX0 b).2.1 := by decide +kernel
theorem tyX0_ok : ∀ k, k < 2 → parseFieldDescriptor (TX0 k).2.2.1 = some (tyX0 k) := by decide +kernel
abbrev cX0_init : ByteArray := prog_2_method_1_code
def yX0_init : MethodName := ⟨RX0, "<init>", "(LIceYard$Ground;LIceYard$Slider;)V"⟩
abbrev cX0_leastTurns : ByteArray := prog_2_method_2_code
def yX0_leastTurns : MethodName := ⟨RX0, "leastTurns", "(JI)I"⟩
abbrev cX0_winningPush : ByteArray := prog_2_method_3_code
def yX0_winningPush : MethodName := ⟨RX0, "winningPush", "(JII)I"⟩
abbrev cX0_winsWhateverComes : ByteArray := prog_2_method_4_code
def yX0_winsWhateverComes : MethodName := ⟨RX0, "winsWhateverComes", "(JII)Z"⟩
def RX1 : String := "IceYard$Ground"
def TX1 : u_T := fun k => match k with
  | 0 => ("IceYard$Ground", "kinds", "[I", true)
  | 1 => ("IceYard$Ground", "starts", "[I", true)
  | 2 => ("IceYard$Ground", "cracks", "[I", true)
  | 3 => ("IceYard$Ground", "ways", "[I", true)
  | 4 => ("IceYard$Ground", "high", "I", false)
  | 5 => ("IceYard$Ground", "wide", "I", false)
  | 6 => ("IceYard$Ground", "blocks", "I", false)
  | 7 => ("IceYard$Ground", "crackCount", "I", false)
  | 8 => ("IceYard$Ground", "walls", "J", false)
  | 9 => ("IceYard$Ground", "sand", "J", false)
  | 10 => ("IceYard$Ground", "gate0", "J", false)
  | 11 => ("IceYard$Ground", "gate1", "J", false)
  | _ => ("IceYard$Ground", "ice", "J", false)
def tyX1 : Nat → FieldType := fun k => match k with
  | 0 => .array .int
  | 1 => .array .int
  | 2 => .array .int
  | 3 => .array .int
  | 4 => .int
  | 5 => .int
  | 6 => .int
  | 7 => .int
  | 8 => .long
  | 9 => .long
  | 10 => .long
  | 11 => .long
  | _ => .long
abbrev wsX10 : List Cond := u_ws RX1 TX1 13
theorem nmX1 : ∀ a, a < 13 → ∀ b, b < 13 → a ≠ b → (TX1 a).2.1 ≠ (TX1 b).2.1 := by decide +kernel
theorem tyX1_ok : ∀ k, k < 13 → parseFieldDescriptor (TX1 k).2.2.1 = some (tyX1 k) := by decide +kernel
abbrev cX1_init : ByteArray := prog_3_method_1_code
def yX1_init : MethodName := ⟨RX1, "<init>", "()V"⟩
abbrev cX1_cells : ByteArray := prog_3_method_2_code
def yX1_cells : MethodName := ⟨RX1, "cells", "()I"⟩
abbrev cX1_hasBlock : ByteArray := prog_3_method_3_code
def yX1_hasBlock : MethodName := ⟨RX1, "hasBlock", "(I)Z"⟩
abbrev cX1_kindOf : ByteArray := prog_3_method_4_code
def yX1_kindOf : MethodName := ⟨RX1, "kindOf", "(I)I"⟩
abbrev cX1_startOf : ByteArray := prog_3_method_5_code
def yX1_startOf : MethodName := ⟨RX1, "startOf", "(I)I"⟩
abbrev cX1_wayFrom : ByteArray := prog_3_method_6_code
def yX1_wayFrom : MethodName := ⟨RX1, "wayFrom", "(II)I"⟩
abbrev cX1_lay : ByteArray := prog_3_method_7_code
def yX1_lay : MethodName := ⟨RX1, "lay", "(LIceYard$Sheet;II)V"⟩
abbrev cX1_layCell : ByteArray := prog_3_method_8_code
def yX1_layCell : MethodName := ⟨RX1, "layCell", "(II)V"⟩
abbrev cX1_layCrack : ByteArray := prog_3_method_9_code
def yX1_layCrack : MethodName := ⟨RX1, "layCrack", "(I)V"⟩
abbrev cX1_layBlock : ByteArray := prog_3_method_10_code
def yX1_layBlock : MethodName := ⟨RX1, "layBlock", "(II)V"⟩
abbrev cX1_layWays : ByteArray := prog_3_method_11_code
def yX1_layWays : MethodName := ⟨RX1, "layWays", "()V"⟩
abbrev cX1_layWay : ByteArray := prog_3_method_12_code
def yX1_layWay : MethodName := ⟨RX1, "layWay", "(IIZI)V"⟩
abbrev cX1_firstYard : ByteArray := prog_3_method_13_code
def yX1_firstYard : MethodName := ⟨RX1, "firstYard", "()J"⟩
abbrev cX1_openCracks : ByteArray := prog_3_method_14_code
def yX1_openCracks : MethodName := ⟨RX1, "openCracks", "(J)J"⟩
abbrev cX1_fillCrack : ByteArray := prog_3_method_15_code
def yX1_fillCrack : MethodName := ⟨RX1, "fillCrack", "(JI)J"⟩
abbrev cX1_signAt : ByteArray := prog_3_method_16_code
def yX1_signAt : MethodName := ⟨RX1, "signAt", "(IJ)I"⟩
def RX2 : String := "IceYard$RowCount"
def TX2 : u_T := fun k => match k with
  | 0 => ("IceYard$RowCount", "ground", "LIceYard$Ground;", true)
  | 1 => ("IceYard$RowCount", "slider", "LIceYard$Slider;", true)
  | 2 => ("IceYard$RowCount", "row", "[I", true)
  | 3 => ("IceYard$RowCount", "firstRow", "[I", true)
  | 4 => ("IceYard$RowCount", "told", "J", false)
  | _ => ("IceYard$RowCount", "found", "I", false)
def tyX2 : Nat → FieldType := fun k => match k with
  | 0 => .object "IceYard$Ground"
  | 1 => .object "IceYard$Slider"
  | 2 => .array .int
  | 3 => .array .int
  | 4 => .long
  | _ => .int
abbrev wsX20 : List Cond := u_ws RX2 TX2 6
theorem nmX2 : ∀ a, a < 6 → ∀ b, b < 6 → a ≠ b → (TX2 a).2.1 ≠ (TX2 b).2.1 := by decide +kernel
theorem tyX2_ok : ∀ k, k < 6 → parseFieldDescriptor (TX2 k).2.2.1 = some (tyX2 k) := by decide +kernel
abbrev cX2_init : ByteArray := prog_4_method_1_code
def yX2_init : MethodName := ⟨RX2, "<init>", "(LIceYard$Ground;LIceYard$Slider;)V"⟩
abbrev cX2_count : ByteArray := prog_4_method_2_code
def yX2_count : MethodName := ⟨RX2, "count", "(JIJ)I"⟩
abbrev cX2_pushAt : ByteArray := prog_4_method_3_code
def yX2_pushAt : MethodName := ⟨RX2, "pushAt", "(I)I"⟩
abbrev cX2_walk : ByteArray := prog_4_method_4_code
def yX2_walk : MethodName := ⟨RX2, "walk", "(JIIJ)V"⟩
abbrev cX2_countRow : ByteArray := prog_4_method_5_code
def yX2_countRow : MethodName := ⟨RX2, "countRow", "(I)V"⟩
def RX3 : String := "IceYard$SandPlan"
def TX3 : u_T := fun k => match k with
  | 0 => ("IceYard$SandPlan", "ground", "LIceYard$Ground;", true)
  | 1 => ("IceYard$SandPlan", "slider", "LIceYard$Slider;", true)
  | _ => ("IceYard$SandPlan", "cell", "I", false)
def tyX3 : Nat → FieldType := fun k => match k with
  | 0 => .object "IceYard$Ground"
  | 1 => .object "IceYard$Slider"
  | _ => .int
abbrev wsX30 : List Cond := u_ws RX3 TX3 3
theorem nmX3 : ∀ a, a < 3 → ∀ b, b < 3 → a ≠ b → (TX3 a).2.1 ≠ (TX3 b).2.1 := by decide +kernel
theorem tyX3_ok : ∀ k, k < 3 → parseFieldDescriptor (TX3 k).2.2.1 = some (tyX3 k) := by decide +kernel
abbrev cX3_init : ByteArray := prog_5_method_1_code
def yX3_init : MethodName := ⟨RX3, "<init>", "(LIceYard$Ground;LIceYard$Slider;)V"⟩
abbrev cX3_fewestCells : ByteArray := prog_5_method_2_code
def yX3_fewestCells : MethodName := ⟨RX3, "fewestCells", "(JIII)I"⟩
abbrev cX3_freeIce : ByteArray := prog_5_method_3_code
def yX3_freeIce : MethodName := ⟨RX3, "freeIce", "(J)J"⟩
abbrev cX3_bringsHome : ByteArray := prog_5_method_4_code
def yX3_bringsHome : MethodName := ⟨RX3, "bringsHome", "(JIII)Z"⟩
def RX4 : String := "IceYard$Search"
def TX4 : u_T := fun k => match k with
  | 0 => ("IceYard$Search", "ground", "LIceYard$Ground;", true)
  | 1 => ("IceYard$Search", "slider", "LIceYard$Slider;", true)
  | 2 => ("IceYard$Search", "yards", "[J", true)
  | 3 => ("IceYard$Search", "origins", "[I", true)
  | 4 => ("IceYard$Search", "numbers", "[I", true)
  | 5 => ("IceYard$Search", "row", "[I", true)
  | 6 => ("IceYard$Search", "slots", "[I", true)
  | 7 => ("IceYard$Search", "count", "I", false)
  | _ => ("IceYard$Search", "length", "I", false)
def tyX4 : Nat → FieldType := fun k => match k with
  | 0 => .object "IceYard$Ground"
  | 1 => .object "IceYard$Slider"
  | 2 => .array .long
  | 3 => .array .int
  | 4 => .array .int
  | 5 => .array .int
  | 6 => .array .int
  | 7 => .int
  | _ => .int
abbrev wsX40 : List Cond := u_ws RX4 TX4 9
theorem nmX4 : ∀ a, a < 9 → ∀ b, b < 9 → a ≠ b → (TX4 a).2.1 ≠ (TX4 b).2.1 := by decide +kernel
theorem tyX4_ok : ∀ k, k < 9 → parseFieldDescriptor (TX4 k).2.2.1 = some (tyX4 k) := by decide +kernel
abbrev cX4_init : ByteArray := prog_6_method_1_code
def yX4_init : MethodName := ⟨RX4, "<init>", "(LIceYard$Ground;LIceYard$Slider;)V"⟩
abbrev cX4_fewestPushes : ByteArray := prog_6_method_2_code
def yX4_fewestPushes : MethodName := ⟨RX4, "fewestPushes", "(JI)I"⟩
abbrev cX4_pushAt : ByteArray := prog_6_method_3_code
def yX4_pushAt : MethodName := ⟨RX4, "pushAt", "(I)I"⟩
abbrev cX4_goOnFrom : ByteArray := prog_6_method_4_code
def yX4_goOnFrom : MethodName := ⟨RX4, "goOnFrom", "(II)I"⟩
abbrev cX4_note : ByteArray := prog_6_method_5_code
def yX4_note : MethodName := ⟨RX4, "note", "(JII)Z"⟩
abbrev cX4_slotOf : ByteArray := prog_6_method_6_code
def yX4_slotOf : MethodName := ⟨RX4, "slotOf", "(J)I"⟩
abbrev cX4_writeRow : ByteArray := prog_6_method_7_code
def yX4_writeRow : MethodName := ⟨RX4, "writeRow", "(II)V"⟩
def RX5 : String := "IceYard$Sheet"
def TX5 : u_T := fun k => match k with
  | 0 => ("IceYard$Sheet", "cells", "[I", true)
  | 1 => ("IceYard$Sheet", "lane", "I", false)
  | _ => ("IceYard$Sheet", "count", "I", false)
def tyX5 : Nat → FieldType := fun k => match k with
  | 0 => .array .int
  | 1 => .int
  | _ => .int
abbrev wsX50 : List Cond := u_ws RX5 TX5 3
theorem nmX5 : ∀ a, a < 3 → ∀ b, b < 3 → a ≠ b → (TX5 a).2.1 ≠ (TX5 b).2.1 := by decide +kernel
theorem tyX5_ok : ∀ k, k < 3 → parseFieldDescriptor (TX5 k).2.2.1 = some (tyX5 k) := by decide +kernel
abbrev cX5_init : ByteArray := prog_7_method_1_code
def yX5_init : MethodName := ⟨RX5, "<init>", "()V"⟩
abbrev cX5_hasNothing : ByteArray := prog_7_method_2_code
def yX5_hasNothing : MethodName := ⟨RX5, "hasNothing", "()Z"⟩
abbrev cX5_empty : ByteArray := prog_7_method_3_code
def yX5_empty : MethodName := ⟨RX5, "empty", "()V"⟩
abbrev cX5_renew : ByteArray := prog_7_method_4_code
def yX5_renew : MethodName := ⟨RX5, "renew", "(II)V"⟩
abbrev cX5_faultTakenAs : ByteArray := prog_7_method_5_code
def yX5_faultTakenAs : MethodName := ⟨RX5, "faultTakenAs", "(I)I"⟩
abbrev cX5_hasCell : ByteArray := prog_7_method_6_code
def yX5_hasCell : MethodName := ⟨RX5, "hasCell", "(I)Z"⟩
abbrev cX5_hasCells : ByteArray := prog_7_method_7_code
def yX5_hasCells : MethodName := ⟨RX5, "hasCells", "(II)Z"⟩
abbrev cX5_read : ByteArray := prog_7_method_8_code
def yX5_read : MethodName := ⟨RX5, "read", "(I)I"⟩
abbrev cX5_write : ByteArray := prog_7_method_9_code
def yX5_write : MethodName := ⟨RX5, "write", "(II)V"⟩
abbrev cX5_cut : ByteArray := prog_7_method_10_code
def yX5_cut : MethodName := ⟨RX5, "cut", "(I)I"⟩
def RX6 : String := "IceYard$Slider"
def TX6 : u_T := fun k => match k with
  | 0 => ("IceYard$Slider", "ground", "LIceYard$Ground;", true)
  | 1 => ("IceYard$Slider", "places", "[I", true)
  | 2 => ("IceYard$Slider", "loaded", "J", false)
  | 3 => ("IceYard$Slider", "occupied", "J", false)
  | 4 => ("IceYard$Slider", "openCracks", "J", false)
  | 5 => ("IceYard$Slider", "trialSand", "J", false)
  | 6 => ("IceYard$Slider", "after", "J", false)
  | 7 => ("IceYard$Slider", "tracks", "J", false)
  | 8 => ("IceYard$Slider", "homeBlock", "I", false)
  | _ => ("IceYard$Slider", "homeGate", "I", false)
def tyX6 : Nat → FieldType := fun k => match k with
  | 0 => .object "IceYard$Ground"
  | 1 => .array .int
  | 2 => .long
  | 3 => .long
  | 4 => .long
  | 5 => .long
  | 6 => .long
  | 7 => .long
  | 8 => .int
  | _ => .int
abbrev wsX60 : List Cond := u_ws RX6 TX6 10
theorem nmX6 : ∀ a, a < 10 → ∀ b, b < 10 → a ≠ b → (TX6 a).2.1 ≠ (TX6 b).2.1 := by decide +kernel
theorem tyX6_ok : ∀ k, k < 10 → parseFieldDescriptor (TX6 k).2.2.1 = some (tyX6 k) := by decide +kernel
abbrev cX6_init : ByteArray := prog_8_method_1_code
def yX6_init : MethodName := ⟨RX6, "<init>", "(LIceYard$Ground;)V"⟩
abbrev cX6_forget : ByteArray := prog_8_method_2_code
def yX6_forget : MethodName := ⟨RX6, "forget", "()V"⟩
abbrev cX6_goes : ByteArray := prog_8_method_3_code
def yX6_goes : MethodName := ⟨RX6, "goes", "(JII)Z"⟩
abbrev cX6_load : ByteArray := prog_8_method_4_code
def yX6_load : MethodName := ⟨RX6, "load", "(J)V"⟩
abbrev cX6_slideOne : ByteArray := prog_8_method_5_code
def yX6_slideOne : MethodName := ⟨RX6, "slideOne", "(II)I"⟩
abbrev cX6_leave : ByteArray := prog_8_method_6_code
def yX6_leave : MethodName := ⟨RX6, "leave", "(II)V"⟩
abbrev cX6_blockIn : ByteArray := prog_8_method_7_code
def yX6_blockIn : MethodName := ⟨RX6, "blockIn", "(I)I"⟩
def RX7 : String := "IceYard$Text"
def TX7 : u_T := fun k => match k with
  | _ => ("", "", "", false)
def tyX7 : Nat → FieldType := fun k => match k with
  | _ => .int
abbrev wsX70 : List Cond := u_ws RX7 TX7 0
theorem nmX7 : ∀ a, a < 0 → ∀ b, b < 0 → a ≠ b → (TX7 a).2.1 ≠ (TX7 b).2.1 := by decide +kernel
theorem tyX7_ok : ∀ k, k < 0 → parseFieldDescriptor (TX7 k).2.2.1 = some (tyX7 k) := by decide +kernel
abbrev cX7_firstFault : ByteArray := prog_9_method_2_code
def yX7_firstFault : MethodName := ⟨RX7, "firstFault", "(LIceYard$Sheet;II)I"⟩
abbrev cX7_fits : ByteArray := prog_9_method_3_code
def yX7_fits : MethodName := ⟨RX7, "fits", "(IIII)Z"⟩
abbrev cX7_opensRow : ByteArray := prog_9_method_4_code
def yX7_opensRow : MethodName := ⟨RX7, "opensRow", "(II)Z"⟩
abbrev cX7_isSign : ByteArray := prog_9_method_5_code
def yX7_isSign : MethodName := ⟨RX7, "isSign", "(I)Z"⟩
abbrev cX7_kindOfSign : ByteArray := prog_9_method_6_code
def yX7_kindOfSign : MethodName := ⟨RX7, "kindOfSign", "(I)I"⟩
def RX8 : String := "IceYard"
def TX8 : u_T := fun k => match k with
  | 0 => ("IceYard", "ground", "LIceYard$Ground;", true)
  | 1 => ("IceYard", "slider", "LIceYard$Slider;", true)
  | 2 => ("IceYard", "search", "LIceYard$Search;", true)
  | 3 => ("IceYard", "game", "LIceYard$Game;", true)
  | 4 => ("IceYard", "rowCount", "LIceYard$RowCount;", true)
  | 5 => ("IceYard", "sandPlan", "LIceYard$SandPlan;", true)
  | 6 => ("IceYard", "sheets", "[LIceYard$Sheet;", true)
  | 7 => ("IceYard", "yardsBefore", "[J", true)
  | 8 => ("IceYard", "images", "[J", true)
  | 9 => ("IceYard", "now", "J", false)
  | 10 => ("IceYard", "pushes", "I", false)
  | 11 => ("IceYard", "trace", "I", false)
  | _ => ("IceYard", "fault", "I", false)
def tyX8 : Nat → FieldType := fun k => match k with
  | 0 => .object "IceYard$Ground"
  | 1 => .object "IceYard$Slider"
  | 2 => .object "IceYard$Search"
  | 3 => .object "IceYard$Game"
  | 4 => .object "IceYard$RowCount"
  | 5 => .object "IceYard$SandPlan"
  | 6 => .array (.object "IceYard$Sheet")
  | 7 => .array .long
  | 8 => .array .long
  | 9 => .long
  | 10 => .int
  | 11 => .int
  | _ => .int
abbrev wsX80 : List Cond := u_ws RX8 TX8 13
theorem nmX8 : ∀ a, a < 13 → ∀ b, b < 13 → a ≠ b → (TX8 a).2.1 ≠ (TX8 b).2.1 := by decide +kernel
theorem tyX8_ok : ∀ k, k < 13 → parseFieldDescriptor (TX8 k).2.2.1 = some (tyX8 k) := by decide +kernel
abbrev cX8_init : ByteArray := prog_1_method_1_code
def yX8_init : MethodName := ⟨RX8, "<init>", "()V"⟩
abbrev cX8_yard : ByteArray := prog_1_method_2_code
def yX8_yard : MethodName := ⟨RX8, "yard", "(IIII)I"⟩
abbrev cX8_takeYard : ByteArray := prog_1_method_3_code
def yX8_takeYard : MethodName := ⟨RX8, "takeYard", "(LIceYard$Sheet;II)V"⟩
abbrev cX8_at : ByteArray := prog_1_method_4_code
def yX8_at : MethodName := ⟨RX8, "at", "(I)I"⟩
abbrev cX8_ofBlock : ByteArray := prog_1_method_5_code
def yX8_ofBlock : MethodName := ⟨RX8, "ofBlock", "(II)I"⟩
abbrev cX8_push : ByteArray := prog_1_method_6_code
def yX8_push : MethodName := ⟨RX8, "push", "(II)I"⟩
abbrev cX8_would : ByteArray := prog_1_method_7_code
def yX8_would : MethodName := ⟨RX8, "would", "(II)I"⟩
abbrev cX8_tracks : ByteArray := prog_1_method_8_code
def yX8_tracks : MethodName := ⟨RX8, "tracks", "(II)J"⟩
abbrev cX8_refusalOfPush : ByteArray := prog_1_method_9_code
def yX8_refusalOfPush : MethodName := ⟨RX8, "refusalOfPush", "(II)I"⟩
abbrev cX8_undo : ByteArray := prog_1_method_10_code
def yX8_undo : MethodName := ⟨RX8, "undo", "(I)I"⟩
abbrev cX8_keep : ByteArray := prog_1_method_11_code
def yX8_keep : MethodName := ⟨RX8, "keep", "(I)I"⟩
abbrev cX8_back : ByteArray := prog_1_method_12_code
def yX8_back : MethodName := ⟨RX8, "back", "(I)I"⟩
abbrev cX8_fewest : ByteArray := prog_1_method_13_code
def yX8_fewest : MethodName := ⟨RX8, "fewest", "(II)I"⟩
abbrev cX8_won : ByteArray := prog_1_method_14_code
def yX8_won : MethodName := ⟨RX8, "won", "(I)I"⟩
abbrev cX8_first : ByteArray := prog_1_method_15_code
def yX8_first : MethodName := ⟨RX8, "first", "(I)I"⟩
abbrev cX8_rows : ByteArray := prog_1_method_16_code
def yX8_rows : MethodName := ⟨RX8, "rows", "(IJI)I"⟩
abbrev cX8_sand : ByteArray := prog_1_method_17_code
def yX8_sand : MethodName := ⟨RX8, "sand", "(IIII)I"⟩
abbrev cX8_thaw : ByteArray := prog_1_method_18_code
def yX8_thaw : MethodName := ⟨RX8, "thaw", "(I)I"⟩
abbrev cX8_sheet : ByteArray := prog_1_method_19_code
def yX8_sheet : MethodName := ⟨RX8, "sheet", "(III)I"⟩
abbrev cX8_lose : ByteArray := prog_1_method_20_code
def yX8_lose : MethodName := ⟨RX8, "lose", "(I)I"⟩
abbrev cX8_put : ByteArray := prog_1_method_21_code
def yX8_put : MethodName := ⟨RX8, "put", "(III)I"⟩
abbrev cX8_cell : ByteArray := prog_1_method_22_code
def yX8_cell : MethodName := ⟨RX8, "cell", "(III)J"⟩
abbrev cX8_copy : ByteArray := prog_1_method_23_code
def yX8_copy : MethodName := ⟨RX8, "copy", "(IIIII)I"⟩
abbrev cX8_tell : ByteArray := prog_1_method_24_code
def yX8_tell : MethodName := ⟨RX8, "tell", "(I)I"⟩
abbrev cX8_tellBlock : ByteArray := prog_1_method_25_code
def yX8_tellBlock : MethodName := ⟨RX8, "tellBlock", "(I)I"⟩
abbrev cX8_tellLog : ByteArray := prog_1_method_26_code
def yX8_tellLog : MethodName := ⟨RX8, "tellLog", "(I)I"⟩
abbrev cX8_tellSledge : ByteArray := prog_1_method_27_code
def yX8_tellSledge : MethodName := ⟨RX8, "tellSledge", "(I)I"⟩
abbrev cX8_kick : ByteArray := prog_1_method_28_code
def yX8_kick : MethodName := ⟨RX8, "kick", "(I)I"⟩
abbrev cX8_leaveTrace : ByteArray := prog_1_method_29_code
def yX8_leaveTrace : MethodName := ⟨RX8, "leaveTrace", "(I)V"⟩
abbrev cX8_as : ByteArray := prog_1_method_30_code
def yX8_as : MethodName := ⟨RX8, "as", "(II)I"⟩
abbrev cX8_trace : ByteArray := prog_1_method_31_code
def yX8_trace : MethodName := ⟨RX8, "trace", "()I"⟩
abbrev cX8_fault : ByteArray := prog_1_method_32_code
def yX8_fault : MethodName := ⟨RX8, "fault", "()I"⟩
abbrev cX8_many : ByteArray := prog_1_method_33_code
def yX8_many : MethodName := ⟨RX8, "many", "(I)I"⟩
abbrev cX8_faulty : ByteArray := prog_1_method_34_code
def yX8_faulty : MethodName := ⟨RX8, "faulty", "(I)I"⟩
abbrev cX8_sheetAt : ByteArray := prog_1_method_35_code
def yX8_sheetAt : MethodName := ⟨RX8, "sheetAt", "(I)LIceYard$Sheet;"⟩
abbrev cX8_isLane : ByteArray := prog_1_method_36_code
def yX8_isLane : MethodName := ⟨RX8, "isLane", "(I)Z"⟩
abbrev cX8_isGate : ByteArray := prog_1_method_37_code
def yX8_isGate : MethodName := ⟨RX8, "isGate", "(I)Z"⟩
abbrev cX8_placeOf : ByteArray := prog_1_method_38_code
def yX8_placeOf : MethodName := ⟨RX8, "placeOf", "(JI)I"⟩
abbrev cX8_withPlace : ByteArray := prog_1_method_39_code
def yX8_withPlace : MethodName := ⟨RX8, "withPlace", "(JII)J"⟩
abbrev cX8_whereIs : ByteArray := prog_1_method_40_code
def yX8_whereIs : MethodName := ⟨RX8, "whereIs", "(JI)I"⟩
abbrev cX8_has : ByteArray := prog_1_method_41_code
def yX8_has : MethodName := ⟨RX8, "has", "(JI)Z"⟩
abbrev cX8_pushNumber : ByteArray := prog_1_method_42_code
def yX8_pushNumber : MethodName := ⟨RX8, "pushNumber", "(II)I"⟩
def RX9 : String := "IceYardModel"
def TX9 : u_T := fun k => match k with
  | 0 => ("IceYardModel", "fault", "I", false)
  | 1 => ("IceYardModel", "high", "I", false)
  | 2 => ("IceYardModel", "wide", "I", false)
  | 3 => ("IceYardModel", "blocks", "I", false)
  | 4 => ("IceYardModel", "ground", "[I", true)
  | 5 => ("IceYardModel", "kindOf", "[I", true)
  | 6 => ("IceYardModel", "startOf", "[I", true)
  | 7 => ("IceYardModel", "lies", "[I", true)
  | 8 => ("IceYardModel", "filled", "J", false)
  | 9 => ("IceYardModel", "readAt", "I", false)
  | 10 => ("IceYardModel", "readBlocks", "I", false)
  | 11 => ("IceYardModel", "readCracks", "I", false)
  | 12 => ("IceYardModel", "readGround", "[I", true)
  | 13 => ("IceYardModel", "readKind", "[I", true)
  | 14 => ("IceYardModel", "readStart", "[I", true)
  | 15 => ("IceYardModel", "readHigh", "I", false)
  | 16 => ("IceYardModel", "readWide", "I", false)
  | 17 => ("IceYardModel", "sandMore", "J", false)
  | 18 => ("IceYardModel", "came", "J", false)
  | 19 => ("IceYardModel", "homes", "I", false)
  | 20 => ("IceYardModel", "liesAt", "[I", true)
  | 21 => ("IceYardModel", "filledAt", "[J", true)
  | 22 => ("IceYardModel", "pushes", "I", false)
  | 23 => ("IceYardModel", "liesBefore", "[I", true)
  | 24 => ("IceYardModel", "filledBefore", "[J", true)
  | 25 => ("IceYardModel", "isKept", "[Z", true)
  | 26 => ("IceYardModel", "liesKept", "[I", true)
  | 27 => ("IceYardModel", "filledKept", "[J", true)
  | 28 => ("IceYardModel", "yardAt", "[J", true)
  | 29 => ("IceYardModel", "fromAt", "[I", true)
  | 30 => ("IceYardModel", "byAt", "[I", true)
  | 31 => ("IceYardModel", "placeOf", "[I", true)
  | 32 => ("IceYardModel", "yards", "I", false)
  | 33 => ("IceYardModel", "lastFrom", "I", false)
  | 34 => ("IceYardModel", "lastBy", "I", false)
  | 35 => ("IceYardModel", "rowOf", "[I", true)
  | 36 => ("IceYardModel", "nextPush", "[I", true)
  | 37 => ("IceYardModel", "had", "[Z", true)
  | 38 => ("IceYardModel", "passed", "[Z", true)
  | 39 => ("IceYardModel", "comes", "[Z", true)
  | 40 => ("IceYardModel", "decided", "[Z", true)
  | 41 => ("IceYardModel", "level", "I", false)
  | 42 => ("IceYardModel", "depth", "I", false)
  | 43 => ("IceYardModel", "whose", "I", false)
  | 44 => ("IceYardModel", "cameAt", "[J", true)
  | 45 => ("IceYardModel", "pushAt", "[I", true)
  | 46 => ("IceYardModel", "firstRow", "[I", true)
  | 47 => ("IceYardModel", "sheetSize", "[I", true)
  | 48 => ("IceYardModel", "sheetLane", "[I", true)
  | 49 => ("IceYardModel", "sheet", "[I", true)
  | 50 => ("IceYardModel", "hands", "[I", true)
  | _ => ("IceYardModel", "traceNow", "I", false)
def tyX9 : Nat → FieldType := fun k => match k with
  | 0 => .int
  | 1 => .int
  | 2 => .int
  | 3 => .int
  | 4 => .array .int
  | 5 => .array .int
  | 6 => .array .int
  | 7 => .array .int
  | 8 => .long
  | 9 => .int
  | 10 => .int
  | 11 => .int
  | 12 => .array .int
  | 13 => .array .int
  | 14 => .array .int
  | 15 => .int
  | 16 => .int
  | 17 => .long
  | 18 => .long
  | 19 => .int
  | 20 => .array .int
  | 21 => .array .long
  | 22 => .int
  | 23 => .array .int
  | 24 => .array .long
  | 25 => .array .boolean
  | 26 => .array .int
  | 27 => .array .long
  | 28 => .array .long
  | 29 => .array .int
  | 30 => .array .int
  | 31 => .array .int
  | 32 => .int
  | 33 => .int
  | 34 => .int
  | 35 => .array .int
  | 36 => .array .int
  | 37 => .array .boolean
  | 38 => .array .boolean
  | 39 => .array .boolean
  | 40 => .array .boolean
  | 41 => .int
  | 42 => .int
  | 43 => .int
  | 44 => .array .long
  | 45 => .array .int
  | 46 => .array .int
  | 47 => .array .int
  | 48 => .array .int
  | 49 => .array .int
  | 50 => .array .int
  | _ => .int
abbrev wsX90 : List Cond := u_ws RX9 TX9 52
theorem nmX9 : ∀ a, a < 52 → ∀ b, b < 52 → a ≠ b → (TX9 a).2.1 ≠ (TX9 b).2.1 := by decide +kernel
theorem tyX9_ok : ∀ k, k < 52 → parseFieldDescriptor (TX9 k).2.2.1 = some (tyX9 k) := by decide +kernel
abbrev cX9_init : ByteArray := prog_11_method_1_code
def yX9_init : MethodName := ⟨RX9, "<init>", "()V"⟩
abbrev cX9_in : ByteArray := prog_11_method_2_code
def yX9_in : MethodName := ⟨RX9, "in", "(JJJ)Z"⟩
abbrev cX9_lost : ByteArray := prog_11_method_3_code
def yX9_lost : MethodName := ⟨RX9, "lost", "()J"⟩
abbrev cX9_refused : ByteArray := prog_11_method_4_code
def yX9_refused : MethodName := ⟨RX9, "refused", "(I)I"⟩
abbrev cX9_failed : ByteArray := prog_11_method_5_code
def yX9_failed : MethodName := ⟨RX9, "failed", "(I)I"⟩
abbrev cX9_failedLong : ByteArray := prog_11_method_6_code
def yX9_failedLong : MethodName := ⟨RX9, "failedLong", "(I)J"⟩
abbrev cX9_cells : ByteArray := prog_11_method_7_code
def yX9_cells : MethodName := ⟨RX9, "cells", "()I"⟩
abbrev cX9_codeAt : ByteArray := prog_11_method_8_code
def yX9_codeAt : MethodName := ⟨RX9, "codeAt", "(II)I"⟩
abbrev cX9_groundOf : ByteArray := prog_11_method_9_code
def yX9_groundOf : MethodName := ⟨RX9, "groundOf", "(I)I"⟩
abbrev cX9_readsSign : ByteArray := prog_11_method_10_code
def yX9_readsSign : MethodName := ⟨RX9, "readsSign", "(III)Z"⟩
abbrev cX9_figure : ByteArray := prog_11_method_11_code
def yX9_figure : MethodName := ⟨RX9, "figure", "(II)I"⟩
abbrev cX9_readsYard : ByteArray := prog_11_method_12_code
def yX9_readsYard : MethodName := ⟨RX9, "readsYard", "(II)Z"⟩
abbrev cX9_yard : ByteArray := prog_11_method_13_code
def yX9_yard : MethodName := ⟨RX9, "yard", "(IIII)I"⟩
abbrev cX9_noBlock : ByteArray := prog_11_method_14_code
def yX9_noBlock : MethodName := ⟨RX9, "noBlock", "(I)Z"⟩
abbrev cX9_blockIn : ByteArray := prog_11_method_15_code
def yX9_blockIn : MethodName := ⟨RX9, "blockIn", "(I)I"⟩
abbrev cX9_whatIs : ByteArray := prog_11_method_16_code
def yX9_whatIs : MethodName := ⟨RX9, "whatIs", "(I)I"⟩
abbrev cX9_at : ByteArray := prog_11_method_17_code
def yX9_at : MethodName := ⟨RX9, "at", "(I)I"⟩
abbrev cX9_ofBlock : ByteArray := prog_11_method_18_code
def yX9_ofBlock : MethodName := ⟨RX9, "ofBlock", "(II)I"⟩
abbrev cX9_beside : ByteArray := prog_11_method_19_code
def yX9_beside : MethodName := ⟨RX9, "beside", "(II)I"⟩
abbrev cX9_slide : ByteArray := prog_11_method_20_code
def yX9_slide : MethodName := ⟨RX9, "slide", "(II)I"⟩
abbrev cX9_goes : ByteArray := prog_11_method_21_code
def yX9_goes : MethodName := ⟨RX9, "goes", "(II)Z"⟩
abbrev cX9_hold : ByteArray := prog_11_method_22_code
def yX9_hold : MethodName := ⟨RX9, "hold", "(I)V"⟩
abbrev cX9_give : ByteArray := prog_11_method_23_code
def yX9_give : MethodName := ⟨RX9, "give", "(I)V"⟩
abbrev cX9_pushBarred : ByteArray := prog_11_method_24_code
def yX9_pushBarred : MethodName := ⟨RX9, "pushBarred", "(II)I"⟩
abbrev cX9_push : ByteArray := prog_11_method_25_code
def yX9_push : MethodName := ⟨RX9, "push", "(II)I"⟩
abbrev cX9_would : ByteArray := prog_11_method_26_code
def yX9_would : MethodName := ⟨RX9, "would", "(II)I"⟩
abbrev cX9_tracks : ByteArray := prog_11_method_27_code
def yX9_tracks : MethodName := ⟨RX9, "tracks", "(II)J"⟩
abbrev cX9_undo : ByteArray := prog_11_method_28_code
def yX9_undo : MethodName := ⟨RX9, "undo", "(I)I"⟩
abbrev cX9_keep : ByteArray := prog_11_method_29_code
def yX9_keep : MethodName := ⟨RX9, "keep", "(I)I"⟩
abbrev cX9_back : ByteArray := prog_11_method_30_code
def yX9_back : MethodName := ⟨RX9, "back", "(I)I"⟩
abbrev cX9_codeOf : ByteArray := prog_11_method_31_code
def yX9_codeOf : MethodName := ⟨RX9, "codeOf", "(I)I"⟩
abbrev cX9_yardNow : ByteArray := prog_11_method_32_code
def yX9_yardNow : MethodName := ⟨RX9, "yardNow", "()J"⟩
abbrev cX9_layYard : ByteArray := prog_11_method_33_code
def yX9_layYard : MethodName := ⟨RX9, "layYard", "(J)V"⟩
abbrev cX9_placeFor : ByteArray := prog_11_method_34_code
def yX9_placeFor : MethodName := ⟨RX9, "placeFor", "(J)I"⟩
abbrev cX9_addYard : ByteArray := prog_11_method_35_code
def yX9_addYard : MethodName := ⟨RX9, "addYard", "(JII)Z"⟩
abbrev cX9_spread : ByteArray := prog_11_method_36_code
def yX9_spread : MethodName := ⟨RX9, "spread", "(II)I"⟩
abbrev cX9_fewest : ByteArray := prog_11_method_37_code
def yX9_fewest : MethodName := ⟨RX9, "fewest", "(II)I"⟩
abbrev cX9_isOwn : ByteArray := prog_11_method_38_code
def yX9_isOwn : MethodName := ⟨RX9, "isOwn", "(I)Z"⟩
abbrev cX9_enter : ByteArray := prog_11_method_39_code
def yX9_enter : MethodName := ⟨RX9, "enter", "(I)V"⟩
abbrev cX9_learn : ByteArray := prog_11_method_40_code
def yX9_learn : MethodName := ⟨RX9, "learn", "(IZ)V"⟩
abbrev cX9_descend : ByteArray := prog_11_method_41_code
def yX9_descend : MethodName := ⟨RX9, "descend", "(I)V"⟩
abbrev cX9_tryNext : ByteArray := prog_11_method_42_code
def yX9_tryNext : MethodName := ⟨RX9, "tryNext", "(I)Z"⟩
abbrev cX9_hasWon : ByteArray := prog_11_method_43_code
def yX9_hasWon : MethodName := ⟨RX9, "hasWon", "(II)Z"⟩
abbrev cX9_wonIn : ByteArray := prog_11_method_44_code
def yX9_wonIn : MethodName := ⟨RX9, "wonIn", "(I)I"⟩
abbrev cX9_won : ByteArray := prog_11_method_45_code
def yX9_won : MethodName := ⟨RX9, "won", "(I)I"⟩
abbrev cX9_first : ByteArray := prog_11_method_46_code
def yX9_first : MethodName := ⟨RX9, "first", "(I)I"⟩
abbrev cX9_goRow : ByteArray := prog_11_method_47_code
def yX9_goRow : MethodName := ⟨RX9, "goRow", "(II)Z"⟩
abbrev cX9_rows : ByteArray := prog_11_method_48_code
def yX9_rows : MethodName := ⟨RX9, "rows", "(IJI)I"⟩
abbrev cX9_comesHome : ByteArray := prog_11_method_49_code
def yX9_comesHome : MethodName := ⟨RX9, "comesHome", "(III)Z"⟩
abbrev cX9_maySand : ByteArray := prog_11_method_50_code
def yX9_maySand : MethodName := ⟨RX9, "maySand", "(I)Z"⟩
abbrev cX9_sand : ByteArray := prog_11_method_51_code
def yX9_sand : MethodName := ⟨RX9, "sand", "(IIII)I"⟩
abbrev cX9_thaw : ByteArray := prog_11_method_52_code
def yX9_thaw : MethodName := ⟨RX9, "thaw", "(I)I"⟩
abbrev cX9_noSheet : ByteArray := prog_11_method_53_code
def yX9_noSheet : MethodName := ⟨RX9, "noSheet", "(I)Z"⟩
abbrev cX9_sheet : ByteArray := prog_11_method_54_code
def yX9_sheet : MethodName := ⟨RX9, "sheet", "(III)I"⟩
abbrev cX9_lose : ByteArray := prog_11_method_55_code
def yX9_lose : MethodName := ⟨RX9, "lose", "(I)I"⟩
abbrev cX9_noCell : ByteArray := prog_11_method_56_code
def yX9_noCell : MethodName := ⟨RX9, "noCell", "(II)I"⟩
abbrev cX9_put : ByteArray := prog_11_method_57_code
def yX9_put : MethodName := ⟨RX9, "put", "(III)I"⟩
abbrev cX9_cell : ByteArray := prog_11_method_58_code
def yX9_cell : MethodName := ⟨RX9, "cell", "(III)J"⟩
abbrev cX9_isBeyond : ByteArray := prog_11_method_59_code
def yX9_isBeyond : MethodName := ⟨RX9, "isBeyond", "(IJI)Z"⟩
abbrev cX9_copy : ByteArray := prog_11_method_60_code
def yX9_copy : MethodName := ⟨RX9, "copy", "(IIIII)I"⟩
abbrev cX9_traced : ByteArray := prog_11_method_61_code
def yX9_traced : MethodName := ⟨RX9, "traced", "(I)V"⟩
abbrev cX9_tell : ByteArray := prog_11_method_62_code
def yX9_tell : MethodName := ⟨RX9, "tell", "(I)I"⟩
abbrev cX9_kick : ByteArray := prog_11_method_63_code
def yX9_kick : MethodName := ⟨RX9, "kick", "(I)I"⟩
abbrev cX9_as : ByteArray := prog_11_method_64_code
def yX9_as : MethodName := ⟨RX9, "as", "(II)I"⟩
abbrev cX9_trace : ByteArray := prog_11_method_65_code
def yX9_trace : MethodName := ⟨RX9, "trace", "()I"⟩
abbrev cX9_fault : ByteArray := prog_11_method_66_code
def yX9_fault : MethodName := ⟨RX9, "fault", "()I"⟩
abbrev cX9_cracksOpen : ByteArray := prog_11_method_67_code
def yX9_cracksOpen : MethodName := ⟨RX9, "cracksOpen", "()I"⟩
abbrev cX9_many : ByteArray := prog_11_method_68_code
def yX9_many : MethodName := ⟨RX9, "many", "(I)I"⟩
def RJ13 : String := "java/lang/Long"
def TJ13 : u_T := fun k => match k with
  | _ => ("", "", "", false)
def tyJ13 : Nat → FieldType := fun k => match k with
  | _ => .int
abbrev wsJ130 : List Cond := u_ws RJ13 TJ13 0
theorem nmJ13 : ∀ a, a < 0 → ∀ b, b < 0 → a ≠ b → (TJ13 a).2.1 ≠ (TJ13 b).2.1 := by decide +kernel
theorem tyJ13_ok : ∀ k, k < 0 → parseFieldDescriptor (TJ13 k).2.2.1 = some (tyJ13 k) := by decide +kernel
abbrev cJ13_bitCount_95d88 : ByteArray := prog_12_method_50_code
def yJ13_bitCount_95d88 : MethodName := ⟨RJ13, "bitCount", "(J)I"⟩
def RJ9 : String := "java/lang/Math"
def TJ9 : u_T := fun k => match k with
  | _ => ("", "", "", false)
def tyJ9 : Nat → FieldType := fun k => match k with
  | _ => .int
abbrev wsJ90 : List Cond := u_ws RJ9 TJ9 0
theorem nmJ9 : ∀ a, a < 0 → ∀ b, b < 0 → a ≠ b → (TJ9 a).2.1 ≠ (TJ9 b).2.1 := by decide +kernel
theorem tyJ9_ok : ∀ k, k < 0 → parseFieldDescriptor (TJ9 k).2.2.1 = some (tyJ9 k) := by decide +kernel
abbrev cJ9_min_7cf53 : ByteArray := prog_13_method_69_code
def yJ9_min_7cf53 : MethodName := ⟨RJ9, "min", "(II)I"⟩
def RJ10 : String := "java/lang/System"
def TJ10 : u_T := fun k => match k with
  | _ => ("", "", "", false)
def tyJ10 : Nat → FieldType := fun k => match k with
  | _ => .int
abbrev wsJ100 : List Cond := u_ws RJ10 TJ10 0
theorem nmJ10 : ∀ a, a < 0 → ∀ b, b < 0 → a ≠ b → (TJ10 a).2.1 ≠ (TJ10 b).2.1 := by decide +kernel
theorem tyJ10_ok : ∀ k, k < 0 → parseFieldDescriptor (TJ10 k).2.2.1 = some (tyJ10 k) := by decide +kernel
def RJ7 : String := "java/util/Arrays"
def TJ7 : u_T := fun k => match k with
  | _ => ("", "", "", false)
def tyJ7 : Nat → FieldType := fun k => match k with
  | _ => .int
abbrev wsJ70 : List Cond := u_ws RJ7 TJ7 0
theorem nmJ7 : ∀ a, a < 0 → ∀ b, b < 0 → a ≠ b → (TJ7 a).2.1 ≠ (TJ7 b).2.1 := by decide +kernel
theorem tyJ7_ok : ∀ k, k < 0 → parseFieldDescriptor (TJ7 k).2.2.1 = some (tyJ7 k) := by decide +kernel
abbrev cJ7_fill_d0a16 : ByteArray := prog_15_method_101_code
def yJ7_fill_d0a16 : MethodName := ⟨RJ7, "fill", "([JJ)V"⟩
abbrev cJ7_fill_53178 : ByteArray := prog_15_method_103_code
def yJ7_fill_53178 : MethodName := ⟨RJ7, "fill", "([II)V"⟩
def RL : String := "IceYardLaw"
abbrev cL_law : ByteArray := code
def yL_law : MethodName := ⟨RL, "law", "([I)Z"⟩
abbrev vwCl : List vw_C := [(RX0, TX0, 2), (RX1, TX1, 13), (RX2, TX2, 6), (RX3, TX3, 3), (RX4, TX4, 9), (RX5, TX5, 3), (RX6, TX6, 10), (RX8, TX8, 13), (RX9, TX9, 52)]
/-- the words that every method is proved with: all good ones of the tables -/
def BW : List Cond := lw_tbl.filter goodWord
theorem bw_good : ∀ w ∈ BW, goodWord w = true := fun _ h => (List.mem_filter.mp h).2
theorem bw_in : ∀ w ∈ BW, w ∈ lw_tbl := fun _ h => (List.mem_filter.mp h).1
theorem bw1 (i : Nat) {w : Cond} (h : tables_1_1[i]? = some w) (g : goodWord w = true) : w ∈ BW := List.mem_filter.mpr ⟨List.mem_append_right _ (List.mem_append_left _ (List.mem_of_getElem? h)), g⟩
theorem bw2 (i : Nat) {w : Cond} (h : tables_1_2[i]? = some w) (g : goodWord w = true) : w ∈ BW := List.mem_filter.mpr ⟨List.mem_append_right _ (List.mem_append_right _ (List.mem_append_left _ (List.mem_of_getElem? h))), g⟩
theorem bw3 (i : Nat) {w : Cond} (h : tables_1_3[i]? = some w) (g : goodWord w = true) : w ∈ BW := List.mem_filter.mpr ⟨List.mem_append_right _ (List.mem_append_right _ (List.mem_append_right _ (List.mem_append_left _ (List.mem_of_getElem? h)))), g⟩
theorem bw4 (i : Nat) {w : Cond} (h : tables_1_4[i]? = some w) (g : goodWord w = true) : w ∈ BW := List.mem_filter.mpr ⟨List.mem_append_right _ (List.mem_append_right _ (List.mem_append_right _ (List.mem_append_right _ (List.mem_append_left _ (List.mem_of_getElem? h))))), g⟩
theorem bw5 (i : Nat) {w : Cond} (h : tables_1_5[i]? = some w) (g : goodWord w = true) : w ∈ BW := List.mem_filter.mpr ⟨List.mem_append_right _ (List.mem_append_right _ (List.mem_append_right _ (List.mem_append_right _ (List.mem_append_right _ (List.mem_of_getElem? h))))), g⟩
theorem bwp (i : Nat) {q : MethodName × Nat} (h : lw_privs[i]? = some q) : Cond.selects q.1.cls q.1 q.1 ∈ BW := List.mem_filter.mpr ⟨List.mem_append_left _ (List.mem_map.mpr ⟨q, List.mem_of_getElem? h, rfl⟩), rfl⟩
end
section
/-! ===== THE MEMORY OF ONE SIDE, ITS SHAPE, AND THE JUDGEMENT J: a walk said in words of that memory alone ===== -/
abbrev Mem : Type := (Nat → Nat → Int32) × (Nat → Nat → Int64)
def setI (σ : Mem) (o k : Nat) (v : Int32) : Mem := (va_up σ.1 o (upd (σ.1 o) k v), σ.2)
def setL (σ : Mem) (o k : Nat) (v : Int64) : Mem := (σ.1, va_up σ.2 o (vp_updL (σ.2 o) k v))
def setA (σ : Mem) (o : Nat) (f : Nat → Int32) : Mem := (va_up σ.1 o f, σ.2)
/-- a cell's shape: (0, its kind, its slots), (1 ints, 2 booleans, 3 longs, its length), (4 references, how many, the first) -/
abbrev SC : Type := Nat × Nat × List (Nat × Nat)
def slotV (ad : Nat → Nat) (σ : Mem) (o j : Nat) (kt : Nat × Nat) : Value := match kt.1 with
  | 0 => .int (σ.1 o j)
  | 1 => .long (σ.2 o j)
  | _ => .ref (ad kt.2)
def refA (ad : Nat → Nat) (n base : Nat) (j : Nat) : Option Nat := if j < n then some (ad (base + j)) else none
def cellE (ca : Nat → ClassId) (ad : Nat → Nat) (σ : Mem) (o : Nat) (sc : SC) : va_E := match sc.1 with
  | 0 => .inr (sc.2.1, sc.2.2.mapIdx (slotV ad σ o))
  | 1 => .inl (ca 0, sc.2.1, .inl (σ.1 o))
  | 2 => .inl (ca 1, sc.2.1, .inl (σ.1 o))
  | 3 => .inl (ca 2, sc.2.1, .inr (.inl (σ.2 o)))
  | _ => .inl (ca 3, sc.2.1, .inr (.inr (.inr (.inr (refA ad sc.2.1 ((sc.2.2.head?.map (·.2)).getD 0))))))
def wsOf (S : List SC) (ca : Nat → ClassId) (ad : Nat → Nat) (σ : Mem) : va_W := S.mapIdx (fun o sc => (ad o, cellE ca ad σ o sc))
theorem ws_at {S : List SC} {ca : Nat → ClassId} {ad : Nat → Nat} {σ : Mem} {o : Nat} {sc : SC} (h : S[o]? = some sc) : (wsOf S ca ad σ)[o]? = some (ad o, cellE ca ad σ o sc) := by
  simp [wsOf, List.getElem?_mapIdx, h]
theorem ws_set {S : List SC} {ca : Nat → ClassId} {ad : Nat → Nat} {σ σ' : Mem} {o : Nat} {sc : SC} {e : va_E} (h : S[o]? = some sc) (he : e = cellE ca ad σ' o sc) (hne : ∀ o', o' ≠ o → ∀ sc', cellE ca ad σ o' sc' = cellE ca ad σ' o' sc') : (wsOf S ca ad σ).set o (ad o, e) = wsOf S ca ad σ' := by
  apply List.ext_getElem?
  intro i
  rw [List.getElem?_set]
  by_cases hi : o = i
  · subst hi
    have hl : o < (wsOf S ca ad σ).length := by
      have := (List.getElem?_eq_some_iff.mp (ws_at (ca := ca) (ad := ad) (σ := σ) h)).1
      exact this
    rw [if_pos rfl, if_pos hl, he, ws_at h]
  · rw [if_neg hi]
    simp only [wsOf, List.getElem?_mapIdx]
    cases S[i]? with
    | none => rfl
    | some sc' => simp only [Option.map_some]; rw [hne i (fun q => hi q.symm) sc']
theorem slotV_ne {ad : Nat → Nat} {σ σ' : Mem} {o j : Nat} (h1 : σ.1 o j = σ'.1 o j) (h2 : σ.2 o j = σ'.2 o j) (kt : Nat × Nat) : slotV ad σ o j kt = slotV ad σ' o j kt := by
  obtain ⟨a, b⟩ := kt
  match a with
  | 0 => exact congrArg Value.int h1
  | 1 => exact congrArg Value.long h2
  | _ + 2 => rfl
theorem cellE_ne {ca : Nat → ClassId} {ad : Nat → Nat} {σ σ' : Mem} {o : Nat} (h1 : σ.1 o = σ'.1 o) (h2 : σ.2 o = σ'.2 o) (sc : SC) : cellE ca ad σ o sc = cellE ca ad σ' o sc := by
  obtain ⟨t, n, sl⟩ := sc
  match t with
  | 0 =>
    show (Sum.inr (n, sl.mapIdx (slotV ad σ o)) : va_E) = Sum.inr (n, sl.mapIdx (slotV ad σ' o))
    have : slotV ad σ o = slotV ad σ' o := by
      funext j kt
      exact slotV_ne (by rw [h1]) (by rw [h2]) kt
    rw [this]
  | 1 => simp only [cellE, h1]
  | 2 => simp only [cellE, h1]
  | 3 => simp only [cellE, h2]
  | _ + 4 => rfl
theorem setI_ne1 {σ : Mem} {o k : Nat} {v : Int32} {o' : Nat} (h : o' ≠ o) : (setI σ o k v).1 o' = σ.1 o' := va_up_ne _ _ h
theorem setL_ne2 {σ : Mem} {o k : Nat} {v : Int64} {o' : Nat} (h : o' ≠ o) : (setL σ o k v).2 o' = σ.2 o' := va_up_ne _ _ h
theorem setA_ne1 {σ : Mem} {o : Nat} {f : Nat → Int32} {o' : Nat} (h : o' ≠ o) : (setA σ o f).1 o' = σ.1 o' := va_up_ne _ _ h
theorem setI_s1 {σ : Mem} {o k : Nat} {v : Int32} : (setI σ o k v).1 o = upd (σ.1 o) k v := va_up_self _ _ _
theorem setL_s2 {σ : Mem} {o k : Nat} {v : Int64} : (setL σ o k v).2 o = vp_updL (σ.2 o) k v := va_up_self _ _ _
theorem setA_s1 {σ : Mem} {o : Nat} {f : Nat → Int32} : (setA σ o f).1 o = f := va_up_self _ _ _
theorem mapIdx_set {ad : Nat → Nat} {σ σ' : Mem} {o k : Nat} {sl : List (Nat × Nat)} {kt : Nat × Nat} {v : Value} (hk : sl[k]? = some kt) (hv : slotV ad σ' o k kt = v) (hne : ∀ j, j ≠ k → ∀ q, slotV ad σ o j q = slotV ad σ' o j q) : (sl.mapIdx (slotV ad σ o)).set k v = sl.mapIdx (slotV ad σ' o) := by
  apply List.ext_getElem?
  intro i
  rw [List.getElem?_set]
  by_cases hi : k = i
  · subst hi
    have hl : k < sl.length := (List.getElem?_eq_some_iff.mp hk).1
    have he : sl[k] = kt := (List.getElem?_eq_some_iff.mp hk).2
    simp [List.getElem?_mapIdx, hl, he, ← hv]
  · rw [if_neg hi]
    simp only [List.getElem?_mapIdx]
    cases sl[i]? with
    | none => rfl
    | some q => simp only [Option.map_some]; rw [hne i (fun q => hi q.symm) q]
theorem ws_putI {S : List SC} {ca : Nat → ClassId} {ad : Nat → Nat} {σ : Mem} {o k ci t : Nat} {sl : List (Nat × Nat)} (v : Int32) (h : S[o]? = some (0, ci, sl)) (hk : sl[k]? = some (0, t)) : (wsOf S ca ad σ).set o (ad o, .inr (ci, (sl.mapIdx (slotV ad σ o)).set k (.int v))) = wsOf S ca ad (setI σ o k v) := by
  refine ws_set h ?_ (fun o' ho sc' => cellE_ne (σ := σ) (σ' := setI σ o k v) (setI_ne1 ho).symm rfl sc')
  show _ = (Sum.inr (ci, sl.mapIdx (slotV ad (setI σ o k v) o)) : va_E)
  rw [mapIdx_set hk]
  · show Value.int ((setI σ o k v).1 o k) = _
    rw [setI_s1]
    simp [upd]
  · intro j hj q
    refine slotV_ne (σ := σ) (σ' := setI σ o k v) ?_ rfl q
    rw [setI_s1]
    simp [upd, hj]
theorem ws_putL {S : List SC} {ca : Nat → ClassId} {ad : Nat → Nat} {σ : Mem} {o k ci t : Nat} {sl : List (Nat × Nat)} (v : Int64) (h : S[o]? = some (0, ci, sl)) (hk : sl[k]? = some (1, t)) : (wsOf S ca ad σ).set o (ad o, .inr (ci, (sl.mapIdx (slotV ad σ o)).set k (.long v))) = wsOf S ca ad (setL σ o k v) := by
  refine ws_set h ?_ (fun o' ho sc' => cellE_ne (σ := σ) (σ' := setL σ o k v) rfl (setL_ne2 ho).symm sc')
  show _ = (Sum.inr (ci, sl.mapIdx (slotV ad (setL σ o k v) o)) : va_E)
  rw [mapIdx_set hk]
  · show Value.long ((setL σ o k v).2 o k) = _
    rw [setL_s2]
    simp [vp_updL]
  · intro j hj q
    refine slotV_ne (σ := σ) (σ' := setL σ o k v) rfl ?_ q
    rw [setL_s2]
    simp [vp_updL, hj]
theorem ws_putAI {S : List SC} {ca : Nat → ClassId} {ad : Nat → Nat} {σ : Mem} {o n : Nat} {sl : List (Nat × Nat)} (k : Nat) (v : Int32) (h : S[o]? = some (1, n, sl)) : (wsOf S ca ad σ).set o (ad o, .inl (ca 0, n, .inl (upd (σ.1 o) k v))) = wsOf S ca ad (setI σ o k v) :=
  ws_set h (by show _ = (Sum.inl (ca 0, n, .inl ((setI σ o k v).1 o)) : va_E); rw [setI_s1]) (fun o' ho sc' => cellE_ne (σ := σ) (σ' := setI σ o k v) (setI_ne1 ho).symm rfl sc')
theorem ws_putAZ {S : List SC} {ca : Nat → ClassId} {ad : Nat → Nat} {σ : Mem} {o n : Nat} {sl : List (Nat × Nat)} (k : Nat) (v : Int32) (h : S[o]? = some (2, n, sl)) : (wsOf S ca ad σ).set o (ad o, .inl (ca 1, n, .inl (upd (σ.1 o) k v))) = wsOf S ca ad (setI σ o k v) :=
  ws_set h (by show _ = (Sum.inl (ca 1, n, .inl ((setI σ o k v).1 o)) : va_E); rw [setI_s1]) (fun o' ho sc' => cellE_ne (σ := σ) (σ' := setI σ o k v) (setI_ne1 ho).symm rfl sc')
theorem ws_putAL {S : List SC} {ca : Nat → ClassId} {ad : Nat → Nat} {σ : Mem} {o n : Nat} {sl : List (Nat × Nat)} (k : Nat) (v : Int64) (h : S[o]? = some (3, n, sl)) : (wsOf S ca ad σ).set o (ad o, .inl (ca 2, n, .inr (.inl (vp_updL (σ.2 o) k v)))) = wsOf S ca ad (setL σ o k v) :=
  ws_set h (by show _ = (Sum.inl (ca 2, n, .inr (.inl ((setL σ o k v).2 o))) : va_E); rw [setL_s2]) (fun o' ho sc' => cellE_ne (σ := σ) (σ' := setL σ o k v) rfl (setL_ne2 ho).symm sc')
theorem ws_putA {S : List SC} {ca : Nat → ClassId} {ad : Nat → Nat} {σ : Mem} {o n : Nat} {sl : List (Nat × Nat)} (f : Nat → Int32) (h : S[o]? = some (1, n, sl)) : (wsOf S ca ad σ).set o (ad o, .inl (ca 0, n, .inl f)) = wsOf S ca ad (setA σ o f) :=
  ws_set h (by show _ = (Sum.inl (ca 0, n, .inl ((setA σ o f).1 o)) : va_E); rw [setA_s1]) (fun o' ho sc' => cellE_ne (σ := σ) (σ' := setA σ o f) (setA_ne1 ho).symm rfl sc')
/-! the pure words of a method's meaning -/
def nm {α β : Type} (e : α) (f : α → β) : β := f e
def rd {R : Type} (i : Int32) (n : Nat) (f : Nat → Option R) : Option R := if i < 0 ∨ n ≤ i.toNatClampNeg then none else f i.toNatClampNeg
def stI {R : Type} (σ : Mem) (o n : Nat) (i v : Int32) (f : Mem → Option R) : Option R := rd i n fun j => f (setI σ o j v)
def stZ {R : Type} (σ : Mem) (o n : Nat) (i v : Int32) (f : Mem → Option R) : Option R := rd i n fun j => f (setI σ o j (vp_nar .boolean v))
def stL {R : Type} (σ : Mem) (o n : Nat) (i : Int32) (v : Int64) (f : Mem → Option R) : Option R := rd i n fun j => f (setL σ o j v)
def dzI {R : Type} (y : Int32) (f : Option R) : Option R := if y = 0 then none else f
def dzL {R : Type} (y : Int64) (f : Option R) : Option R := if y = 0 then none else f
def bi {α R : Type} (x : Option (α × Mem)) (f : α → Mem → Option R) : Option R := match x with
  | none => none
  | some p => f p.1 p.2
def bv {R : Type} (x : Option Mem) (f : Mem → Option R) : Option R := match x with
  | none => none
  | some p => f p
def rz (v : Int32) (σ : Mem) : Option (Int32 × Mem) := if v = 0 ∨ v = 1 then some (v, σ) else none
def shOk (o : Nat) : Prop := 7 ≤ o ∧ o ≤ 10
/-- a reference to a sheet, or null -/
def sh {R : Type} (v : Option Nat) (a : Option R) (f : Nat → Option R) : Option R := match v with
  | none => a
  | some o => if 7 ≤ o ∧ o ≤ 10 then f o else none
def ov (ad : Nat → Nat) (v : Option Nat) : Value := match v with
  | none => .null
  | some o => .ref (ad o)
/-- how often a loop is gone through at most, far more than any -/
def FU : Nat := 100000
theorem nn {R : Type} {out : R} {P : Prop} (h : (none : Option R) = some out) : P := by cases h
theorem cpI {R : Type} {out : R} {P : Prop} {c : Prop} {dc : Decidable c} {f g : Option R} (h : (if c then f else g) = some out) (k1 : c → f = some out → P) (k2 : ¬ c → g = some out → P) : P := by
  by_cases hc : c
  · rw [if_pos hc] at h; exact k1 hc h
  · rw [if_neg hc] at h; exact k2 hc h
theorem rd_of {R : Type} {out : R} {i : Int32} {n : Nat} {f : Nat → Option R} (h : rd i n f = some out) : vp_in i n ∧ f i.toNatClampNeg = some out := by
  unfold rd at h
  by_cases hc : i < 0 ∨ n ≤ i.toNatClampNeg
  · rw [if_pos hc] at h; cases h
  · rw [if_neg hc] at h; exact ⟨hc, h⟩
/-! the context of a walk -/
abbrev CX : Type := Program × Launch × Env × State × MethodId × Array Value × List Frame × Method × Code × (Array Value → State → Outcome → State → Prop) × va_G × (Nat → ClassId) × (Nat → Nat) × (Nat → Prop)
abbrev xp (X : CX) : Program := X.1
abbrev xl (X : CX) : Launch := X.2.1
abbrev xe (X : CX) : Env := X.2.2.1
abbrev xs (X : CX) : State := X.2.2.2.1
abbrev xm (X : CX) : MethodId := X.2.2.2.2.1
abbrev xa (X : CX) : Array Value := X.2.2.2.2.2.1
abbrev xb (X : CX) : List Frame := X.2.2.2.2.2.2.1
abbrev xh (X : CX) : Method := X.2.2.2.2.2.2.2.1
abbrev xc (X : CX) : Code := X.2.2.2.2.2.2.2.2.1
abbrev xQ (X : CX) : Array Value → State → Outcome → State → Prop := X.2.2.2.2.2.2.2.2.2.1
abbrev xD (X : CX) : va_G := X.2.2.2.2.2.2.2.2.2.2.1
abbrev xk (X : CX) : Nat → ClassId := X.2.2.2.2.2.2.2.2.2.2.2.1
def xad (X : CX) : Nat → Nat := X.2.2.2.2.2.2.2.2.2.2.2.2.1
abbrev xA (X : CX) : Nat → Prop := X.2.2.2.2.2.2.2.2.2.2.2.2.2
/-- a method: its code, its class, its locals, its answer's type, how deep it calls -/
abbrev MD : Type := ByteArray × String × Nat × Option FieldType × Nat
def rmL (d : Nat) : Room := { frames := d, cells := 0, slots := 0, locals := 50 * d }
def tyL (ca : Nat → ClassId) : List (ClassId × FieldType) := [(ca 0, .int), (ca 1, .boolean), (ca 2, .long), (ca 3, .object "IceYard$Sheet")]
def nestL : List (String × Nat × MethodName × String) := [(RX8, 13, yX1_init, "IceYard"), (RX8, 59, yX5_init, "IceYard"), (RX1, 90, yX8_has, "IceYard"), (RX1, 97, yX8_withPlace, "IceYard"), (RX6, 58, yX8_placeOf, "IceYard"), (RX6, 87, yX8_has, "IceYard"), (RX6, 91, yX8_withPlace, "IceYard"), (RX4, 70, yX8_pushNumber, "IceYard"), (RX0, 45, yX8_pushNumber, "IceYard"), (RX2, 60, yX8_pushNumber, "IceYard"), (RX3, 19, yX8_placeOf, "IceYard"), (RX3, 43, yX8_has, "IceYard")]
def NK (U : State) : Prop := ∀ q ∈ nestL, va_Nw (.methodLinkNest q.1 q.2.1 q.2.2.1 q.2.2.2) U
theorem NK.warm {s U : State} (h : NK s) (hW : s.WarmedH U.vm) : NK U := fun q hq => va_Nw.warmM hW (h q hq)
theorem NK.same {s U : State} (h : NK s) (hv : s.vm = U.vm) : NK U := fun q hq => va_Nw.same rfl hv (h q hq)
def OK (X : CX) (M : MD) : Prop := (xp X).tables.exec = Jvm.exec ∧ (xc X).code = M.1 ∧ (xh X).sig.returnType = M.2.2.2.1 ∧ (xc X).maxLocals = M.2.2.1 ∧ (xs X).vm.findClass M.2.1 = some (xm X).cls ∧ (∀ w ∈ BW, w.before (xa X) (xs X) = true) ∧ (xh X).locks = false ∧ va_K (xD X) vwCl (tyL (xk X)) (xs X) ∧ NK (xs X) ∧ ∀ q, (xs X).heap.size ≤ q → xA X q
def J (X : CX) (S : List SC) (M : MD) (σ : Mem) (pc : Nat) (lv : List (Nat × Value)) (st : List Value) : Prop :=
  OK X M → ∀ (H : Heap) (locs : List Loc) (ls : Array Slot), va_P (xD X) vwCl (wsOf S (xk X) (xad X) σ) H → va_D (xA X) (wsOf S (xk X) (xad X) σ) → va_S (xA X) (xs X).heap H locs → lv_has ls M.2.2.1 lv →
    W (xp X) (xl X) (xe X) (rmL M.2.2.2.2) (xs X) (xm X) (xa X) (xb X) (xh X) (xc X) H locs 0 0 (MQ (xb X) (xQ X) (xa X) (xs X) 0 0 (xA X)) (F0 (xm X) pc ls st)
def Ends (X : CX) (S : List SC) (r : Option Value) (σ : Mem) : Prop := ∀ (t : State) (H : Heap) (locs : List Loc), t.heap = H → va_P (xD X) vwCl (wsOf S (xk X) (xad X) σ) H → va_D (xA X) (wsOf S (xk X) (xad X) σ) → va_S (xA X) (xs X).heap H locs → xQ X (xa X) (xs X) (.returned r) t
def Con (S : List SC) (d : Nat) (y : MethodName) (cc : ByteArray) (nL : Nat) (ret : Option FieldType) (as : (Nat → Nat) → List Value) (σ : Mem) (r : (Nat → Nat) → Option Value) (σ' : Mem) : Prop :=
  ∀ (l : Launch) (D : va_G) (ca : Nat → ClassId) (ad : Nat → Nat) (sz : Nat), Met l y (.code y cc nL ret :: BW) (rmL d) (va_Pc (as ad) (fun U => U.heap.size = sz ∧ va_P D vwCl (wsOf S ca ad σ) U.heap ∧ va_K D vwCl (tyL ca) U ∧ va_D (fun _ => True) (wsOf S ca ad σ) ∧ NK U))
    (fun _ st oc t => (oc = .returned (r ad) ∧ va_P D vwCl (wsOf S ca ad σ') t.heap ∧ va_D (va_A (wsOf S ca ad σ) sz) (wsOf S ca ad σ')) ∧ va_F (va_A (wsOf S ca ad σ) sz) st t) 0 0 (va_A (wsOf S ca ad σ) sz)
theorem con_of {S : List SC} {d : Nat} {y : MethodName} {cc : ByteArray} {nL : Nat} {ret : Option FieldType} {as : (Nat → Nat) → List Value} {σ σ' : Mem} {r : (Nat → Nat) → Option Value} (hy : plainName y.cls = true) (hlen : ∀ ad, (lg_sl (as ad)).length ≤ nL)
    (body : ∀ X : CX, Ends X S (r (xad X)) σ' → J X S (cc, y.cls, nL, ret, d) σ 0 (lv_args 0 (as (xad X))) []) : Con S d y cc nL ret as σ r σ' := by
  intro l D ca ad sz
  refine Met.ofW (cc := cc) (maxL := nL) (ret := ret) hy rfl ?_
  intro p e s m args below meth c s₁ B hml hv
  obtain ⟨rfl, hsz, hP, hK, hD0, hN⟩ := hv
  have hx := B.exec
  have hb := B.bytes
  have hr := B.returns
  have hts := atoms_spec (ws := .code y cc nL ret :: BW) B.pre
  have hown : s.vm.findClass y.cls = some m.cls := findClass_of_methodNamed B.named
  have hlocks := B.notSynchronized
  subst hsz
  have hD := hD0.self (sz := s.heap.size)
  have hl := lv_entry (as ad) (n := nL) (hlen ad)
  rw [lg_entry_eq]
  refine body (p, l, e, s, m, (as ad).toArray, below, meth, c, _, D, ca, ad, va_A (wsOf S ca ad σ) s.heap.size) ?_ ⟨hx, hb, hr, hml, hown, fun w hw => hts w (List.mem_cons_of_mem _ hw), hlocks, hK, hN, fun q h => Or.inr h⟩ s.heap [] _ hP hD va_S.rf hl
  intro t H locs ht hP1 hD1 hS1
  exact ⟨⟨rfl, by rw [ht]; exact hP1, hD1⟩, hS1.F ht⟩
end
section
/-! ===== THE ROWS OF J: an instruction each ===== -/
section JR
variable {X : CX} {S : List SC} {M : MD} {σ : Mem} {pc q : Nat} {lv lv2 : List (Nat × Value)} {st : List Value} {R : Type} {out : R}
theorem r_iconst {n : Int} {v : Int32} (d : decode M.1 pc = .ok (.iconst n, 1)) (hq : pc + 1 = q) (hv : Int32.ofInt n = v) (k : J X S M σ q lv (.int v :: st)) : J X S M σ pc lv st := by
  subst hq
  intro hO H locs ls hP hD hS hl
  exact lv_iconst hO.1 hO.2.1 d hv (k hO H locs ls hP hD hS hl)
theorem r_bipush {n : Int} {v : Int32} (d : decode M.1 pc = .ok (.bipush n, 2)) (hq : pc + 2 = q) (hv : (Int8.ofInt n).toInt32 = v) (k : J X S M σ q lv (.int v :: st)) : J X S M σ pc lv st := by
  subst hq
  intro hO H locs ls hP hD hS hl
  exact lv_bipush hO.1 hO.2.1 d hv (k hO H locs ls hP hD hS hl)
theorem r_sipush {n : Int} {v : Int32} (d : decode M.1 pc = .ok (.sipush n, 3)) (hq : pc + 3 = q) (hv : (Int16.ofInt n).toInt32 = v) (k : J X S M σ q lv (.int v :: st)) : J X S M σ pc lv st := by
  subst hq
  intro hO H locs ls hP hD hS hl
  exact lv_sipush hO.1 hO.2.1 d hv (k hO H locs ls hP hD hS hl)
theorem r_lconst {n : Fin 2} {v : Int64} (d : decode M.1 pc = .ok (.lconst n, 1)) (hq : pc + 1 = q) (hv : Int64.ofNat (n : Nat) = v) (k : J X S M σ q lv (.long v :: st)) : J X S M σ pc lv st := by
  subst hq
  intro hO H locs ls hP hD hS hl
  exact lv_lconst hO.1 hO.2.1 d hv (k hO H locs ls hP hD hS hl)
theorem r_ldc2 {i : Nat} {v : Int64} (d : decode M.1 pc = .ok (.ldc2_w i, 3)) (hq : pc + 3 = q) (hw : Jvm.Cond.constantLong M.2.1 i v ∈ BW) (k : J X S M σ q lv (.long v :: st)) : J X S M σ pc lv st := by
  subst hq
  intro hO H locs ls hP hD hS hl
  exact lv_ldc2 hO.1 hO.2.1 hO.2.2.2.2.1 (hO.2.2.2.2.2.1 _ hw) d (k hO H locs ls hP hD hS hl)
theorem r_null  (d : decode M.1 pc = .ok (.aconst_null, 1)) (hq : pc + 1 = q) (k : J X S M σ q lv (.null :: st)) : J X S M σ pc lv st := by
  subst hq
  intro hO H locs ls hP hD hS hl
  exact lv_null hO.1 hO.2.1 d (k hO H locs ls hP hD hS hl)
theorem r_iload_n (j : Nat) {n : Fin 4} {i : Nat} {x : Int32} (d : decode M.1 pc = .ok (.iload_n n, 1)) (hq : pc + 1 = q) (hi : (n : Nat) = i) (hj : lv[j]? = some (i, .int x)) (k : J X S M σ q lv (.int x :: st)) : J X S M σ pc lv st := by
  subst hq
  intro hO H locs ls hP hD hS hl
  exact lv_iload_n hO.1 hO.2.1 d hi (lv_at hl j hj) (k hO H locs ls hP hD hS hl)
theorem r_iload (j : Nat) {i : Nat} {x : Int32} (d : decode M.1 pc = .ok (.iload i, 2)) (hq : pc + 2 = q) (hj : lv[j]? = some (i, .int x)) (k : J X S M σ q lv (.int x :: st)) : J X S M σ pc lv st := by
  subst hq
  intro hO H locs ls hP hD hS hl
  exact lv_iload hO.1 hO.2.1 d (lv_at hl j hj) (k hO H locs ls hP hD hS hl)
theorem r_lload_n (j : Nat) {n : Fin 4} {i : Nat} {x : Int64} (d : decode M.1 pc = .ok (.lload_n n, 1)) (hq : pc + 1 = q) (hi : (n : Nat) = i) (hj : lv[j]? = some (i, .long x)) (k : J X S M σ q lv (.long x :: st)) : J X S M σ pc lv st := by
  subst hq
  intro hO H locs ls hP hD hS hl
  exact lv_lload_n hO.1 hO.2.1 d hi (lv_at hl j hj) (k hO H locs ls hP hD hS hl)
theorem r_lload (j : Nat) {i : Nat} {x : Int64} (d : decode M.1 pc = .ok (.lload i, 2)) (hq : pc + 2 = q) (hj : lv[j]? = some (i, .long x)) (k : J X S M σ q lv (.long x :: st)) : J X S M σ pc lv st := by
  subst hq
  intro hO H locs ls hP hD hS hl
  exact lv_lload hO.1 hO.2.1 d (lv_at hl j hj) (k hO H locs ls hP hD hS hl)
theorem r_aload_n (j : Nat) {n : Fin 4} {i : Nat} {x : Nat} (d : decode M.1 pc = .ok (.aload_n n, 1)) (hq : pc + 1 = q) (hi : (n : Nat) = i) (hj : lv[j]? = some (i, .ref x)) (k : J X S M σ q lv (.ref x :: st)) : J X S M σ pc lv st := by
  subst hq
  intro hO H locs ls hP hD hS hl
  exact lv_aload_n hO.1 hO.2.1 d hi (lv_at hl j hj) (k hO H locs ls hP hD hS hl)
theorem r_aload (j : Nat) {i : Nat} {x : Nat} (d : decode M.1 pc = .ok (.aload i, 2)) (hq : pc + 2 = q) (hj : lv[j]? = some (i, .ref x)) (k : J X S M σ q lv (.ref x :: st)) : J X S M σ pc lv st := by
  subst hq
  intro hO H locs ls hP hD hS hl
  exact lv_aload hO.1 hO.2.1 d (lv_at hl j hj) (k hO H locs ls hP hD hS hl)
theorem r_istore_n (lv2 : Int32 → List (Nat × Value)) {i : Nat} {n : Fin 4} {x : Int32} {f : Int32 → Option R} (d : decode M.1 pc = .ok (.istore_n n, 1)) (hq : pc + 1 = q) (hi : (n : Nat) = i) (hn : i < M.2.2.1) (hv : ∀ y, (i, .int y) :: lv.filter (fun q => !(q.1 == i) && !(q.1 + 1 == i && q.2.category == 2)) = lv2 y) (h : nm x f = some out) (k : ∀ y, f y = some out → J X S M σ q (lv2 y) st) : J X S M σ pc lv (.int x :: st) := by
  subst hq
  intro hO H locs ls hP hD hS hl
  exact lv_istore_n (lv' := lv2 x) hO.1 hO.2.1 d hi hl hn (hv x) (fun ls hl => k x h hO H locs ls hP hD hS hl)
theorem r_istoreV_n (lv2 : List (Nat × Value)) {i : Nat} {n : Fin 4} {x : Int32} (d : decode M.1 pc = .ok (.istore_n n, 1)) (hq : pc + 1 = q) (hi : (n : Nat) = i) (hn : i < M.2.2.1) (hv : (i, .int x) :: lv.filter (fun q => !(q.1 == i) && !(q.1 + 1 == i && q.2.category == 2)) = lv2) (k : J X S M σ q lv2 st) : J X S M σ pc lv (.int x :: st) := by
  subst hq
  intro hO H locs ls hP hD hS hl
  exact lv_istore_n (lv' := lv2) hO.1 hO.2.1 d hi hl hn hv (fun ls hl => k hO H locs ls hP hD hS hl)
theorem r_istore (lv2 : Int32 → List (Nat × Value)) {i : Nat} {x : Int32} {f : Int32 → Option R} (d : decode M.1 pc = .ok (.istore i, 2)) (hq : pc + 2 = q) (hn : i < M.2.2.1) (hv : ∀ y, (i, .int y) :: lv.filter (fun q => !(q.1 == i) && !(q.1 + 1 == i && q.2.category == 2)) = lv2 y) (h : nm x f = some out) (k : ∀ y, f y = some out → J X S M σ q (lv2 y) st) : J X S M σ pc lv (.int x :: st) := by
  subst hq
  intro hO H locs ls hP hD hS hl
  exact lv_istore (lv' := lv2 x) hO.1 hO.2.1 d hl hn (hv x) (fun ls hl => k x h hO H locs ls hP hD hS hl)
theorem r_istoreV (lv2 : List (Nat × Value)) {i : Nat} {x : Int32} (d : decode M.1 pc = .ok (.istore i, 2)) (hq : pc + 2 = q) (hn : i < M.2.2.1) (hv : (i, .int x) :: lv.filter (fun q => !(q.1 == i) && !(q.1 + 1 == i && q.2.category == 2)) = lv2) (k : J X S M σ q lv2 st) : J X S M σ pc lv (.int x :: st) := by
  subst hq
  intro hO H locs ls hP hD hS hl
  exact lv_istore (lv' := lv2) hO.1 hO.2.1 d hl hn hv (fun ls hl => k hO H locs ls hP hD hS hl)
theorem r_lstore_n (lv2 : Int64 → List (Nat × Value)) {i : Nat} {n : Fin 4} {x : Int64} {f : Int64 → Option R} (d : decode M.1 pc = .ok (.lstore_n n, 1)) (hq : pc + 1 = q) (hi : (n : Nat) = i) (hn : i + 1 < M.2.2.1) (hv : ∀ y, (i, .long y) :: lv.filter (fun q => !(q.1 == i) && (!(q.1 == i + 1) && !(q.1 + 1 == i && q.2.category == 2))) = lv2 y) (h : nm x f = some out) (k : ∀ y, f y = some out → J X S M σ q (lv2 y) st) : J X S M σ pc lv (.long x :: st) := by
  subst hq
  intro hO H locs ls hP hD hS hl
  exact lv_lstore_n (lv' := lv2 x) hO.1 hO.2.1 d hi hl hn (hv x) (fun ls hl => k x h hO H locs ls hP hD hS hl)
theorem r_lstoreV_n (lv2 : List (Nat × Value)) {i : Nat} {n : Fin 4} {x : Int64} (d : decode M.1 pc = .ok (.lstore_n n, 1)) (hq : pc + 1 = q) (hi : (n : Nat) = i) (hn : i + 1 < M.2.2.1) (hv : (i, .long x) :: lv.filter (fun q => !(q.1 == i) && (!(q.1 == i + 1) && !(q.1 + 1 == i && q.2.category == 2))) = lv2) (k : J X S M σ q lv2 st) : J X S M σ pc lv (.long x :: st) := by
  subst hq
  intro hO H locs ls hP hD hS hl
  exact lv_lstore_n (lv' := lv2) hO.1 hO.2.1 d hi hl hn hv (fun ls hl => k hO H locs ls hP hD hS hl)
theorem r_lstore (lv2 : Int64 → List (Nat × Value)) {i : Nat} {x : Int64} {f : Int64 → Option R} (d : decode M.1 pc = .ok (.lstore i, 2)) (hq : pc + 2 = q) (hn : i + 1 < M.2.2.1) (hv : ∀ y, (i, .long y) :: lv.filter (fun q => !(q.1 == i) && (!(q.1 == i + 1) && !(q.1 + 1 == i && q.2.category == 2))) = lv2 y) (h : nm x f = some out) (k : ∀ y, f y = some out → J X S M σ q (lv2 y) st) : J X S M σ pc lv (.long x :: st) := by
  subst hq
  intro hO H locs ls hP hD hS hl
  exact lv_lstore (lv' := lv2 x) hO.1 hO.2.1 d hl hn (hv x) (fun ls hl => k x h hO H locs ls hP hD hS hl)
theorem r_lstoreV (lv2 : List (Nat × Value)) {i : Nat} {x : Int64} (d : decode M.1 pc = .ok (.lstore i, 2)) (hq : pc + 2 = q) (hn : i + 1 < M.2.2.1) (hv : (i, .long x) :: lv.filter (fun q => !(q.1 == i) && (!(q.1 == i + 1) && !(q.1 + 1 == i && q.2.category == 2))) = lv2) (k : J X S M σ q lv2 st) : J X S M σ pc lv (.long x :: st) := by
  subst hq
  intro hO H locs ls hP hD hS hl
  exact lv_lstore (lv' := lv2) hO.1 hO.2.1 d hl hn hv (fun ls hl => k hO H locs ls hP hD hS hl)
theorem r_astore_n (lv2 : List (Nat × Value)) {i : Nat} {n : Fin 4} {x : Nat} (d : decode M.1 pc = .ok (.astore_n n, 1)) (hq : pc + 1 = q) (hi : (n : Nat) = i) (hn : i < M.2.2.1) (hv : (i, Value.ref x) :: lv.filter (fun q => !(q.1 == i) && !(q.1 + 1 == i && q.2.category == 2)) = lv2) (k : J X S M σ q lv2 st) : J X S M σ pc lv (.ref x :: st) := by
  subst hq
  intro hO H locs ls hP hD hS hl
  exact lv_astore_n (lv' := lv2) hO.1 hO.2.1 d hi hl hn hv (fun ls hl => k hO H locs ls hP hD hS hl)
theorem r_astoreN_n (lv2 : List (Nat × Value)) {i : Nat} {n : Fin 4} (d : decode M.1 pc = .ok (.astore_n n, 1)) (hq : pc + 1 = q) (hi : (n : Nat) = i) (hn : i < M.2.2.1) (hv : (i, Value.null) :: lv.filter (fun q => !(q.1 == i) && !(q.1 + 1 == i && q.2.category == 2)) = lv2) (k : J X S M σ q lv2 st) : J X S M σ pc lv (.null :: st) := by
  subst hq
  intro hO H locs ls hP hD hS hl
  exact lv_astore_nN (lv' := lv2) hO.1 hO.2.1 d hi hl hn hv (fun ls hl => k hO H locs ls hP hD hS hl)
theorem r_astore (lv2 : List (Nat × Value)) {i : Nat} {x : Nat} (d : decode M.1 pc = .ok (.astore i, 2)) (hq : pc + 2 = q) (hn : i < M.2.2.1) (hv : (i, Value.ref x) :: lv.filter (fun q => !(q.1 == i) && !(q.1 + 1 == i && q.2.category == 2)) = lv2) (k : J X S M σ q lv2 st) : J X S M σ pc lv (.ref x :: st) := by
  subst hq
  intro hO H locs ls hP hD hS hl
  exact lv_astore (lv' := lv2) hO.1 hO.2.1 d hl hn hv (fun ls hl => k hO H locs ls hP hD hS hl)
theorem r_astoreN (lv2 : List (Nat × Value)) {i : Nat} (d : decode M.1 pc = .ok (.astore i, 2)) (hq : pc + 2 = q) (hn : i < M.2.2.1) (hv : (i, Value.null) :: lv.filter (fun q => !(q.1 == i) && !(q.1 + 1 == i && q.2.category == 2)) = lv2) (k : J X S M σ q lv2 st) : J X S M σ pc lv (.null :: st) := by
  subst hq
  intro hO H locs ls hP hD hS hl
  exact lv_astoreN (lv' := lv2) hO.1 hO.2.1 d hl hn hv (fun ls hl => k hO H locs ls hP hD hS hl)
theorem r_aloadN_n (j : Nat) {i : Nat} {n : Fin 4} (d : decode M.1 pc = .ok (.aload_n n, 1)) (hq : pc + 1 = q) (hi : (n : Nat) = i) (hj : lv[j]? = some (i, .null)) (k : J X S M σ q lv (.null :: st)) : J X S M σ pc lv st := by
  subst hq
  intro hO H locs ls hP hD hS hl
  exact lv_aload_nN hO.1 hO.2.1 d hi (lv_at hl j hj) (k hO H locs ls hP hD hS hl)
theorem r_aloadN (j : Nat) {i : Nat} (d : decode M.1 pc = .ok (.aload i, 2)) (hq : pc + 2 = q) (hj : lv[j]? = some (i, .null)) (k : J X S M σ q lv (.null :: st)) : J X S M σ pc lv st := by
  subst hq
  intro hO H locs ls hP hD hS hl
  exact lv_aloadN hO.1 hO.2.1 d (lv_at hl j hj) (k hO H locs ls hP hD hS hl)
theorem r_iinc (j : Nat) (lv2 : Int32 → List (Nat × Value)) {i : Nat} {n : Int} {c x : Int32} {f : Int32 → Option R} (d : decode M.1 pc = .ok (.iinc i n, 3)) (hq : pc + 3 = q) (hj : lv[j]? = some (i, .int x)) (hc : Int32.ofInt n = c) (hn : i < M.2.2.1) (hv : ∀ y, (i, Value.int y) :: lv.filter (fun q => !(q.1 == i) && !(q.1 + 1 == i && q.2.category == 2)) = lv2 y) (h : nm (x + c) f = some out) (k : ∀ y, f y = some out → J X S M σ q (lv2 y) st) : J X S M σ pc lv st := by
  subst hq
  intro hO H locs ls hP hD hS hl
  exact lv_iinc (v := x + c) (lv' := lv2 (x + c)) hO.1 hO.2.1 d hl hj (by rw [hc]) hn (hv _) (fun ls hl => k _ h hO H locs ls hP hD hS hl)
theorem r_iadd {x y : Int32} (d : decode M.1 pc = .ok (.iadd, 1)) (hq : pc + 1 = q) (k : J X S M σ q lv (.int (x + y) :: st)) : J X S M σ pc lv (.int y :: .int x :: st) := by
  subst hq
  intro hO H locs ls hP hD hS hl
  exact lv_iadd hO.1 hO.2.1 d (k hO H locs ls hP hD hS hl)
theorem r_isub {x y : Int32} (d : decode M.1 pc = .ok (.isub, 1)) (hq : pc + 1 = q) (k : J X S M σ q lv (.int (x - y) :: st)) : J X S M σ pc lv (.int y :: .int x :: st) := by
  subst hq
  intro hO H locs ls hP hD hS hl
  exact lv_isub hO.1 hO.2.1 d (k hO H locs ls hP hD hS hl)
theorem r_imul {x y : Int32} (d : decode M.1 pc = .ok (.imul, 1)) (hq : pc + 1 = q) (k : J X S M σ q lv (.int (x * y) :: st)) : J X S M σ pc lv (.int y :: .int x :: st) := by
  subst hq
  intro hO H locs ls hP hD hS hl
  exact lv_imul hO.1 hO.2.1 d (k hO H locs ls hP hD hS hl)
theorem r_iand {x y : Int32} (d : decode M.1 pc = .ok (.iand, 1)) (hq : pc + 1 = q) (k : J X S M σ q lv (.int (x &&& y) :: st)) : J X S M σ pc lv (.int y :: .int x :: st) := by
  subst hq
  intro hO H locs ls hP hD hS hl
  exact lv_iand hO.1 hO.2.1 d (k hO H locs ls hP hD hS hl)
theorem r_ior {x y : Int32} (d : decode M.1 pc = .ok (.ior, 1)) (hq : pc + 1 = q) (k : J X S M σ q lv (.int (x ||| y) :: st)) : J X S M σ pc lv (.int y :: .int x :: st) := by
  subst hq
  intro hO H locs ls hP hD hS hl
  exact lv_ior hO.1 hO.2.1 d (k hO H locs ls hP hD hS hl)
theorem r_ixor {x y : Int32} (d : decode M.1 pc = .ok (.ixor, 1)) (hq : pc + 1 = q) (k : J X S M σ q lv (.int (x ^^^ y) :: st)) : J X S M σ pc lv (.int y :: .int x :: st) := by
  subst hq
  intro hO H locs ls hP hD hS hl
  exact lv_ixor hO.1 hO.2.1 d (k hO H locs ls hP hD hS hl)
theorem r_ishl {x y : Int32} (d : decode M.1 pc = .ok (.ishl, 1)) (hq : pc + 1 = q) (k : J X S M σ q lv (.int (x <<< (y &&& 31)) :: st)) : J X S M σ pc lv (.int y :: .int x :: st) := by
  subst hq
  intro hO H locs ls hP hD hS hl
  exact lv_ishl hO.1 hO.2.1 d (k hO H locs ls hP hD hS hl)
theorem r_ishr {x y : Int32} (d : decode M.1 pc = .ok (.ishr, 1)) (hq : pc + 1 = q) (k : J X S M σ q lv (.int (x >>> (y &&& 31)) :: st)) : J X S M σ pc lv (.int y :: .int x :: st) := by
  subst hq
  intro hO H locs ls hP hD hS hl
  exact lv_ishr hO.1 hO.2.1 d (k hO H locs ls hP hD hS hl)
theorem r_ladd {x y : Int64} (d : decode M.1 pc = .ok (.ladd, 1)) (hq : pc + 1 = q) (k : J X S M σ q lv (.long (x + y) :: st)) : J X S M σ pc lv (.long y :: .long x :: st) := by
  subst hq
  intro hO H locs ls hP hD hS hl
  exact lv_ladd hO.1 hO.2.1 d (k hO H locs ls hP hD hS hl)
theorem r_lsub {x y : Int64} (d : decode M.1 pc = .ok (.lsub, 1)) (hq : pc + 1 = q) (k : J X S M σ q lv (.long (x - y) :: st)) : J X S M σ pc lv (.long y :: .long x :: st) := by
  subst hq
  intro hO H locs ls hP hD hS hl
  exact lv_lsub hO.1 hO.2.1 d (k hO H locs ls hP hD hS hl)
theorem r_lmul {x y : Int64} (d : decode M.1 pc = .ok (.lmul, 1)) (hq : pc + 1 = q) (k : J X S M σ q lv (.long (x * y) :: st)) : J X S M σ pc lv (.long y :: .long x :: st) := by
  subst hq
  intro hO H locs ls hP hD hS hl
  exact lv_lmul hO.1 hO.2.1 d (k hO H locs ls hP hD hS hl)
theorem r_land {x y : Int64} (d : decode M.1 pc = .ok (.land, 1)) (hq : pc + 1 = q) (k : J X S M σ q lv (.long (x &&& y) :: st)) : J X S M σ pc lv (.long y :: .long x :: st) := by
  subst hq
  intro hO H locs ls hP hD hS hl
  exact lv_land hO.1 hO.2.1 d (k hO H locs ls hP hD hS hl)
theorem r_lor {x y : Int64} (d : decode M.1 pc = .ok (.lor, 1)) (hq : pc + 1 = q) (k : J X S M σ q lv (.long (x ||| y) :: st)) : J X S M σ pc lv (.long y :: .long x :: st) := by
  subst hq
  intro hO H locs ls hP hD hS hl
  exact lv_lor hO.1 hO.2.1 d (k hO H locs ls hP hD hS hl)
theorem r_lxor {x y : Int64} (d : decode M.1 pc = .ok (.lxor, 1)) (hq : pc + 1 = q) (k : J X S M σ q lv (.long (x ^^^ y) :: st)) : J X S M σ pc lv (.long y :: .long x :: st) := by
  subst hq
  intro hO H locs ls hP hD hS hl
  exact lv_lxor hO.1 hO.2.1 d (k hO H locs ls hP hD hS hl)
theorem r_iushr {x y : Int32} (d : decode M.1 pc = .ok (.iushr, 1)) (hq : pc + 1 = q) (k : J X S M σ q lv (.int ((x.toUInt32 >>> (y.toUInt32 &&& Int32.toUInt32 31)).toInt32) :: st)) : J X S M σ pc lv (.int y :: .int x :: st) := by
  subst hq
  intro hO H locs ls hP hD hS hl
  exact lv_iushr hO.1 hO.2.1 d rfl (k hO H locs ls hP hD hS hl)
theorem r_lushr {x : Int64} {y : Int32} (d : decode M.1 pc = .ok (.lushr, 1)) (hq : pc + 1 = q) (k : J X S M σ q lv (.long ((x.toUInt64 >>> (y.toInt64.toUInt64 &&& Int64.toUInt64 63)).toInt64) :: st)) : J X S M σ pc lv (.int y :: .long x :: st) := by
  subst hq
  intro hO H locs ls hP hD hS hl
  exact lv_lushr hO.1 hO.2.1 d rfl (k hO H locs ls hP hD hS hl)
theorem r_lshl {x : Int64} {y : Int32} (d : decode M.1 pc = .ok (.lshl, 1)) (hq : pc + 1 = q) (k : J X S M σ q lv (.long (x <<< (y.toInt64 &&& 63)) :: st)) : J X S M σ pc lv (.int y :: .long x :: st) := by
  subst hq
  intro hO H locs ls hP hD hS hl
  exact lv_lshl hO.1 hO.2.1 d rfl (k hO H locs ls hP hD hS hl)
theorem r_lshr {x : Int64} {y : Int32} (d : decode M.1 pc = .ok (.lshr, 1)) (hq : pc + 1 = q) (k : J X S M σ q lv (.long (x >>> (y.toInt64 &&& 63)) :: st)) : J X S M σ pc lv (.int y :: .long x :: st) := by
  subst hq
  intro hO H locs ls hP hD hS hl
  exact lv_lshr hO.1 hO.2.1 d rfl (k hO H locs ls hP hD hS hl)
theorem r_i2l {x : Int32} (d : decode M.1 pc = .ok (.i2l, 1)) (hq : pc + 1 = q) (k : J X S M σ q lv (.long x.toInt64 :: st)) : J X S M σ pc lv (.int x :: st) := by
  subst hq
  intro hO H locs ls hP hD hS hl
  exact lv_i2l hO.1 hO.2.1 d rfl (k hO H locs ls hP hD hS hl)
theorem r_l2i {x : Int64} (d : decode M.1 pc = .ok (.l2i, 1)) (hq : pc + 1 = q) (k : J X S M σ q lv (.int x.toInt32 :: st)) : J X S M σ pc lv (.long x :: st) := by
  subst hq
  intro hO H locs ls hP hD hS hl
  exact lv_l2i hO.1 hO.2.1 d rfl (k hO H locs ls hP hD hS hl)
theorem r_i2b {x : Int32} (d : decode M.1 pc = .ok (.i2b, 1)) (hq : pc + 1 = q) (k : J X S M σ q lv (.int x.toInt8.toInt32 :: st)) : J X S M σ pc lv (.int x :: st) := by
  subst hq
  intro hO H locs ls hP hD hS hl
  exact lv_i2b hO.1 hO.2.1 d rfl (k hO H locs ls hP hD hS hl)
theorem r_i2s {x : Int32} (d : decode M.1 pc = .ok (.i2s, 1)) (hq : pc + 1 = q) (k : J X S M σ q lv (.int x.toInt16.toInt32 :: st)) : J X S M σ pc lv (.int x :: st) := by
  subst hq
  intro hO H locs ls hP hD hS hl
  exact lv_i2s hO.1 hO.2.1 d rfl (k hO H locs ls hP hD hS hl)
theorem r_lcmp {x y : Int64} (d : decode M.1 pc = .ok (.lcmp, 1)) (hq : pc + 1 = q) (k : J X S M σ q lv (.int (lg_cmp x y) :: st)) : J X S M σ pc lv (.long y :: .long x :: st) := by
  subst hq
  intro hO H locs ls hP hD hS hl
  exact W.lcmp hO.1 hO.2.1 d (k hO H locs ls hP hD hS hl)
theorem r_dup {v : Value} (d : decode M.1 pc = .ok (.dup, 1)) (hq : pc + 1 = q) (hc : v.category = 1) (k : J X S M σ q lv (v :: v :: st)) : J X S M σ pc lv (v :: st) := by
  subst hq
  intro hO H locs ls hP hD hS hl
  exact lv_dup hO.1 hO.2.1 d hc (k hO H locs ls hP hD hS hl)
theorem r_dup2 {v w : Value} (d : decode M.1 pc = .ok (.dup2, 1)) (hq : pc + 1 = q) (hc : v.category = 1) (hd : w.category = 1) (k : J X S M σ q lv (v :: w :: v :: w :: st)) : J X S M σ pc lv (v :: w :: st) := by
  subst hq
  intro hO H locs ls hP hD hS hl
  exact lv_dup2_11 hO.1 hO.2.1 d hc hd (k hO H locs ls hP hD hS hl)
theorem r_pop {v : Value} (d : decode M.1 pc = .ok (.pop, 1)) (hq : pc + 1 = q) (hc : v.category = 1) (k : J X S M σ q lv st) : J X S M σ pc lv (v :: st) := by
  subst hq
  intro hO H locs ls hP hD hS hl
  exact lv_pop hO.1 hO.2.1 d hc (k hO H locs ls hP hD hS hl)
theorem r_idiv {x y : Int32} {f : Option R} (d : decode M.1 pc = .ok (.idiv, 1)) (hq : pc + 1 = q) (h : dzI y f = some out) (k : f = some out → J X S M σ q lv (.int (x / y) :: st)) : J X S M σ pc lv (.int y :: .int x :: st) := by
  subst hq
  unfold dzI at h
  by_cases hy : y = 0
  · rw [if_pos hy] at h; cases h
  · rw [if_neg hy] at h
    intro hO H locs ls hP hD hS hl
    exact lv_idiv hO.1 hO.2.1 d hy (k h hO H locs ls hP hD hS hl)
theorem r_irem {x y : Int32} {f : Option R} (d : decode M.1 pc = .ok (.irem, 1)) (hq : pc + 1 = q) (h : dzI y f = some out) (k : f = some out → J X S M σ q lv (.int (x - x / y * y) :: st)) : J X S M σ pc lv (.int y :: .int x :: st) := by
  subst hq
  unfold dzI at h
  by_cases hy : y = 0
  · rw [if_pos hy] at h; cases h
  · rw [if_neg hy] at h
    intro hO H locs ls hP hD hS hl
    exact lv_irem hO.1 hO.2.1 d hy (k h hO H locs ls hP hD hS hl)
theorem r_ldiv {x y : Int64} {f : Option R} (d : decode M.1 pc = .ok (.ldiv, 1)) (hq : pc + 1 = q) (h : dzL y f = some out) (k : f = some out → J X S M σ q lv (.long (x / y) :: st)) : J X S M σ pc lv (.long y :: .long x :: st) := by
  subst hq
  unfold dzL at h
  by_cases hy : y = 0
  · rw [if_pos hy] at h; cases h
  · rw [if_neg hy] at h
    intro hO H locs ls hP hD hS hl
    exact lv_ldiv hO.1 hO.2.1 d hy (k h hO H locs ls hP hD hS hl)
theorem r_lrem {x y : Int64} {f : Option R} (d : decode M.1 pc = .ok (.lrem, 1)) (hq : pc + 1 = q) (h : dzL y f = some out) (k : f = some out → J X S M σ q lv (.long (x - x / y * y) :: st)) : J X S M σ pc lv (.long y :: .long x :: st) := by
  subst hq
  unfold dzL at h
  by_cases hy : y = 0
  · rw [if_pos hy] at h; cases h
  · rw [if_neg hy] at h
    intro hO H locs ls hP hD hS hl
    exact lv_lrem hO.1 hO.2.1 d hy (k h hO H locs ls hP hD hS hl)
theorem r_if_eq {x : Int32} {off : Int} {tgt : Nat} {dc : Decidable (x = 0)} {f g : Option R} (d : decode M.1 pc = .ok (.ifCond .eq off, 3)) (ht : (pc : Int) + off = (tgt : Int)) (hq : pc + 3 = q) (h : (if x = 0 then f else g) = some out) (kt : x = 0 → f = some out → J X S M σ tgt lv st) (kf : ¬ x = 0 → g = some out → J X S M σ q lv st) : J X S M σ pc lv (.int x :: st) := by
  subst hq
  intro hO H locs ls hP hD hS hl
  exact lv_if_eq hO.1 hO.2.1 d ht (fun c0 => kt c0 (by rw [if_pos c0] at h; exact h) hO H locs ls hP hD hS hl) (fun c0 => kf c0 (by rw [if_neg c0] at h; exact h) hO H locs ls hP hD hS hl)
theorem r_icmp_eq {x y : Int32} {off : Int} {tgt : Nat} {dc : Decidable (x = y)} {f g : Option R} (d : decode M.1 pc = .ok (.if_icmp .eq off, 3)) (ht : (pc : Int) + off = (tgt : Int)) (hq : pc + 3 = q) (h : (if x = y then f else g) = some out) (kt : x = y → f = some out → J X S M σ tgt lv st) (kf : ¬ x = y → g = some out → J X S M σ q lv st) : J X S M σ pc lv (.int y :: .int x :: st) := by
  subst hq
  intro hO H locs ls hP hD hS hl
  exact lv_icmp_eq hO.1 hO.2.1 d ht (fun c0 => kt c0 (by rw [if_pos c0] at h; exact h) hO H locs ls hP hD hS hl) (fun c0 => kf c0 (by rw [if_neg c0] at h; exact h) hO H locs ls hP hD hS hl)
theorem r_if_ne {x : Int32} {off : Int} {tgt : Nat} {dc : Decidable (x = 0)} {f g : Option R} (d : decode M.1 pc = .ok (.ifCond .ne off, 3)) (ht : (pc : Int) + off = (tgt : Int)) (hq : pc + 3 = q) (h : (if x = 0 then g else f) = some out) (kt : ¬ x = 0 → f = some out → J X S M σ tgt lv st) (kf : x = 0 → g = some out → J X S M σ q lv st) : J X S M σ pc lv (.int x :: st) := by
  subst hq
  intro hO H locs ls hP hD hS hl
  exact lv_if_ne hO.1 hO.2.1 d ht (fun c0 => kt c0 (by rw [if_neg c0] at h; exact h) hO H locs ls hP hD hS hl) (fun c0 => kf c0 (by rw [if_pos c0] at h; exact h) hO H locs ls hP hD hS hl)
theorem r_icmp_ne {x y : Int32} {off : Int} {tgt : Nat} {dc : Decidable (x = y)} {f g : Option R} (d : decode M.1 pc = .ok (.if_icmp .ne off, 3)) (ht : (pc : Int) + off = (tgt : Int)) (hq : pc + 3 = q) (h : (if x = y then g else f) = some out) (kt : ¬ x = y → f = some out → J X S M σ tgt lv st) (kf : x = y → g = some out → J X S M σ q lv st) : J X S M σ pc lv (.int y :: .int x :: st) := by
  subst hq
  intro hO H locs ls hP hD hS hl
  exact lv_icmp_ne hO.1 hO.2.1 d ht (fun c0 => kt c0 (by rw [if_neg c0] at h; exact h) hO H locs ls hP hD hS hl) (fun c0 => kf c0 (by rw [if_pos c0] at h; exact h) hO H locs ls hP hD hS hl)
theorem r_if_lt {x : Int32} {off : Int} {tgt : Nat} {dc : Decidable (x < 0)} {f g : Option R} (d : decode M.1 pc = .ok (.ifCond .lt off, 3)) (ht : (pc : Int) + off = (tgt : Int)) (hq : pc + 3 = q) (h : (if x < 0 then f else g) = some out) (kt : x < 0 → f = some out → J X S M σ tgt lv st) (kf : ¬ x < 0 → g = some out → J X S M σ q lv st) : J X S M σ pc lv (.int x :: st) := by
  subst hq
  intro hO H locs ls hP hD hS hl
  exact lv_if_lt hO.1 hO.2.1 d ht (fun c0 => kt c0 (by rw [if_pos c0] at h; exact h) hO H locs ls hP hD hS hl) (fun c0 => kf c0 (by rw [if_neg c0] at h; exact h) hO H locs ls hP hD hS hl)
theorem r_icmp_lt {x y : Int32} {off : Int} {tgt : Nat} {dc : Decidable (x < y)} {f g : Option R} (d : decode M.1 pc = .ok (.if_icmp .lt off, 3)) (ht : (pc : Int) + off = (tgt : Int)) (hq : pc + 3 = q) (h : (if x < y then f else g) = some out) (kt : x < y → f = some out → J X S M σ tgt lv st) (kf : ¬ x < y → g = some out → J X S M σ q lv st) : J X S M σ pc lv (.int y :: .int x :: st) := by
  subst hq
  intro hO H locs ls hP hD hS hl
  exact lv_icmp_lt hO.1 hO.2.1 d ht (fun c0 => kt c0 (by rw [if_pos c0] at h; exact h) hO H locs ls hP hD hS hl) (fun c0 => kf c0 (by rw [if_neg c0] at h; exact h) hO H locs ls hP hD hS hl)
theorem r_if_ge {x : Int32} {off : Int} {tgt : Nat} {dc : Decidable (0 ≤ x)} {f g : Option R} (d : decode M.1 pc = .ok (.ifCond .ge off, 3)) (ht : (pc : Int) + off = (tgt : Int)) (hq : pc + 3 = q) (h : (if 0 ≤ x then f else g) = some out) (kt : 0 ≤ x → f = some out → J X S M σ tgt lv st) (kf : ¬ 0 ≤ x → g = some out → J X S M σ q lv st) : J X S M σ pc lv (.int x :: st) := by
  subst hq
  intro hO H locs ls hP hD hS hl
  exact lv_if_ge hO.1 hO.2.1 d ht (fun c0 => kt c0 (by rw [if_pos c0] at h; exact h) hO H locs ls hP hD hS hl) (fun c0 => kf c0 (by rw [if_neg c0] at h; exact h) hO H locs ls hP hD hS hl)
theorem r_icmp_ge {x y : Int32} {off : Int} {tgt : Nat} {dc : Decidable (y ≤ x)} {f g : Option R} (d : decode M.1 pc = .ok (.if_icmp .ge off, 3)) (ht : (pc : Int) + off = (tgt : Int)) (hq : pc + 3 = q) (h : (if y ≤ x then f else g) = some out) (kt : y ≤ x → f = some out → J X S M σ tgt lv st) (kf : ¬ y ≤ x → g = some out → J X S M σ q lv st) : J X S M σ pc lv (.int y :: .int x :: st) := by
  subst hq
  intro hO H locs ls hP hD hS hl
  exact lv_icmp_ge hO.1 hO.2.1 d ht (fun c0 => kt c0 (by rw [if_pos c0] at h; exact h) hO H locs ls hP hD hS hl) (fun c0 => kf c0 (by rw [if_neg c0] at h; exact h) hO H locs ls hP hD hS hl)
theorem r_if_gt {x : Int32} {off : Int} {tgt : Nat} {dc : Decidable (0 < x)} {f g : Option R} (d : decode M.1 pc = .ok (.ifCond .gt off, 3)) (ht : (pc : Int) + off = (tgt : Int)) (hq : pc + 3 = q) (h : (if 0 < x then f else g) = some out) (kt : 0 < x → f = some out → J X S M σ tgt lv st) (kf : ¬ 0 < x → g = some out → J X S M σ q lv st) : J X S M σ pc lv (.int x :: st) := by
  subst hq
  intro hO H locs ls hP hD hS hl
  exact lv_if_gt hO.1 hO.2.1 d ht (fun c0 => kt c0 (by rw [if_pos c0] at h; exact h) hO H locs ls hP hD hS hl) (fun c0 => kf c0 (by rw [if_neg c0] at h; exact h) hO H locs ls hP hD hS hl)
theorem r_icmp_gt {x y : Int32} {off : Int} {tgt : Nat} {dc : Decidable (y < x)} {f g : Option R} (d : decode M.1 pc = .ok (.if_icmp .gt off, 3)) (ht : (pc : Int) + off = (tgt : Int)) (hq : pc + 3 = q) (h : (if y < x then f else g) = some out) (kt : y < x → f = some out → J X S M σ tgt lv st) (kf : ¬ y < x → g = some out → J X S M σ q lv st) : J X S M σ pc lv (.int y :: .int x :: st) := by
  subst hq
  intro hO H locs ls hP hD hS hl
  exact lv_icmp_gt hO.1 hO.2.1 d ht (fun c0 => kt c0 (by rw [if_pos c0] at h; exact h) hO H locs ls hP hD hS hl) (fun c0 => kf c0 (by rw [if_neg c0] at h; exact h) hO H locs ls hP hD hS hl)
theorem r_if_le {x : Int32} {off : Int} {tgt : Nat} {dc : Decidable (x ≤ 0)} {f g : Option R} (d : decode M.1 pc = .ok (.ifCond .le off, 3)) (ht : (pc : Int) + off = (tgt : Int)) (hq : pc + 3 = q) (h : (if x ≤ 0 then f else g) = some out) (kt : x ≤ 0 → f = some out → J X S M σ tgt lv st) (kf : ¬ x ≤ 0 → g = some out → J X S M σ q lv st) : J X S M σ pc lv (.int x :: st) := by
  subst hq
  intro hO H locs ls hP hD hS hl
  exact lv_if_le hO.1 hO.2.1 d ht (fun c0 => kt c0 (by rw [if_pos c0] at h; exact h) hO H locs ls hP hD hS hl) (fun c0 => kf c0 (by rw [if_neg c0] at h; exact h) hO H locs ls hP hD hS hl)
theorem r_icmp_le {x y : Int32} {off : Int} {tgt : Nat} {dc : Decidable (x ≤ y)} {f g : Option R} (d : decode M.1 pc = .ok (.if_icmp .le off, 3)) (ht : (pc : Int) + off = (tgt : Int)) (hq : pc + 3 = q) (h : (if x ≤ y then f else g) = some out) (kt : x ≤ y → f = some out → J X S M σ tgt lv st) (kf : ¬ x ≤ y → g = some out → J X S M σ q lv st) : J X S M σ pc lv (.int y :: .int x :: st) := by
  subst hq
  intro hO H locs ls hP hD hS hl
  exact lv_icmp_le hO.1 hO.2.1 d ht (fun c0 => kt c0 (by rw [if_pos c0] at h; exact h) hO H locs ls hP hD hS hl) (fun c0 => kf c0 (by rw [if_neg c0] at h; exact h) hO H locs ls hP hD hS hl)
theorem r_goto {off : Int} {tgt : Nat} (d : decode M.1 pc = .ok (.goto off, 3)) (ht : (pc : Int) + off = (tgt : Int)) (k : J X S M σ tgt lv st) : J X S M σ pc lv st := by
  intro hO H locs ls hP hD hS hl
  exact lv_goto hO.1 hO.2.1 d ht (k hO H locs ls hP hD hS hl)
theorem r_ifnonnull {x : Nat} {off : Int} {tgt : Nat} (d : decode M.1 pc = .ok (.ifnonnull off, 3)) (ht : (pc : Int) + off = (tgt : Int)) (k : J X S M σ tgt lv st) : J X S M σ pc lv (.ref x :: st) := by
  intro hO H locs ls hP hD hS hl
  exact lv_ifnonnull hO.1 hO.2.1 d ht (k hO H locs ls hP hD hS hl)
theorem r_ifnonnullN {off : Int} (d : decode M.1 pc = .ok (.ifnonnull off, 3)) (hq : pc + 3 = q) (k : J X S M σ q lv st) : J X S M σ pc lv (.null :: st) := by
  subst hq
  intro hO H locs ls hP hD hS hl
  exact lv_ifnonnullN hO.1 hO.2.1 d (k hO H locs ls hP hD hS hl)
theorem r_ifnull {x : Nat} {off : Int} (d : decode M.1 pc = .ok (.ifnull off, 3)) (hq : pc + 3 = q) (k : J X S M σ q lv st) : J X S M σ pc lv (.ref x :: st) := by
  subst hq
  intro hO H locs ls hP hD hS hl
  exact lv_ifnull hO.1 hO.2.1 d (k hO H locs ls hP hD hS hl)
theorem r_ifnullN {off : Int} {tgt : Nat} (d : decode M.1 pc = .ok (.ifnull off, 3)) (ht : (pc : Int) + off = (tgt : Int)) (k : J X S M σ tgt lv st) : J X S M σ pc lv (.null :: st) := by
  intro hO H locs ls hP hD hS hl
  exact lv_ifnullN hO.1 hO.2.1 d ht (k hO H locs ls hP hD hS hl)
theorem r_lookup {dflt : Int} {ps : Array (Int × Int)} {len : Nat} {x : Int32} {off : Int} {tgt : Nat} (d : decode M.1 pc = .ok (.lookupswitch dflt ps, len)) (hp : (ps.toList.zip (ps.toList.drop 1)).all (fun (a, next) => a.1 < next.1) = true) (ho : Op.lookupswitch.offset ps.toList dflt x.toInt = off) (ht : (pc : Int) + off = (tgt : Int)) (k : J X S M σ tgt lv st) : J X S M σ pc lv (.int x :: st) := by
  intro hO H locs ls hP hD hS hl
  exact lv_lookup hO.1 hO.2.1 d hp ho ht (k hO H locs ls hP hD hS hl)
theorem r_tableOut {dflt lo hi : Int} {offs : Array Int} {len : Nat} {x : Int32} {tgt : Nat} (d : decode M.1 pc = .ok (.tableswitch dflt lo hi offs, len)) (hx : x.toInt < lo ∨ hi < x.toInt) (ht : (pc : Int) + dflt = (tgt : Int)) (k : J X S M σ tgt lv st) : J X S M σ pc lv (.int x :: st) := by
  intro hO H locs ls hP hD hS hl
  exact lv_tableOut hO.1 hO.2.1 d hx ht (k hO H locs ls hP hD hS hl)
theorem r_tableIn {dflt lo hi : Int} {offs : Array Int} {len : Nat} {x : Int32} {off : Int} {tgt : Nat} (d : decode M.1 pc = .ok (.tableswitch dflt lo hi offs, len)) (h1 : ¬ x.toInt < lo) (h2 : ¬ hi < x.toInt) (ho : offs[(x.toInt - lo).toNat]? = some off) (ht : (pc : Int) + off = (tgt : Int)) (k : J X S M σ tgt lv st) : J X S M σ pc lv (.int x :: st) := by
  intro hO H locs ls hP hD hS hl
  exact lv_tableIn hO.1 hO.2.1 d h1 h2 ho ht (k hO H locs ls hP hD hS hl)
theorem r_sub (ks : List Nat) (hv : lv_pick lv ks = lv2) (k : J X S M σ pc lv2 st) : J X S M σ pc lv st := by
  intro hO H locs ls hP hD hS hl
  exact k hO H locs ls hP hD hS (lv_sub hl ks hv)
/-- a field's link: its place in the own class's pool, its kind, its slot -/
def FG (own : String) (idx ci k : Nat) : Prop := ∃ (C : String) (T : u_T) (N : Nat), vwCl[ci]? = some (C, T, N) ∧ k < N ∧ Cond.fieldLink own idx (T k).1 (T k).2.1 (T k).2.2.1 ∈ BW ∧ ∀ w ∈ u_ws C T N, w ∈ BW
def FP (own : String) (idx ci k : Nat) (ty : FieldType) : Prop := ∃ (C : String) (T : u_T) (N : Nat) (t0 : Nat → FieldType), vwCl[ci]? = some (C, T, N) ∧ k < N ∧ Cond.fieldLink own idx (T k).1 (T k).2.1 (T k).2.2.1 ∈ BW ∧ (∀ w ∈ u_ws C T N, w ∈ BW) ∧ (∀ k, k < N → parseFieldDescriptor (T k).2.2.1 = some (t0 k)) ∧ (∀ a, a < N → ∀ b, b < N → a ≠ b → (T a).2.1 ≠ (T b).2.1) ∧ (T k).2.2.2 = false ∧ parseFieldDescriptor (T k).2.2.1 = some ty
theorem r_getI {o ci k t idx : Nat} {sl : List (Nat × Nat)} (g : FG M.2.1 idx ci k) (hs : S[o]? = some (0, ci, sl)) (hk : sl[k]? = some (0, t)) (d : decode M.1 pc = .ok (.getfield idx, 3)) (hq : pc + 3 = q) (kk : J X S M σ q lv (.int (σ.1 o k) :: st)) : J X S M σ pc lv (.ref (xad X o) :: st) := by
  subst hq
  intro hO H locs ls hP hD hS hl
  obtain ⟨C, T, N, hc, hkN, hw, hin⟩ := g
  exact va_get (fs := sl.mapIdx (slotV (xad X) σ o)) hO.1 hO.2.1 hO.2.2.2.2.2.1 hin hO.2.2.2.2.1 hO.2.2.2.2.2.2.2.1 hP o (ws_at hs) hc k hkN (hO.2.2.2.2.2.1 _ hw) (fun _ h9 => h9) (by rw [List.getElem?_mapIdx, hk]; rfl) d (kk hO H locs ls hP hD hS hl)
theorem r_getL {o ci k t idx : Nat} {sl : List (Nat × Nat)} (g : FG M.2.1 idx ci k) (hs : S[o]? = some (0, ci, sl)) (hk : sl[k]? = some (1, t)) (d : decode M.1 pc = .ok (.getfield idx, 3)) (hq : pc + 3 = q) (kk : J X S M σ q lv (.long (σ.2 o k) :: st)) : J X S M σ pc lv (.ref (xad X o) :: st) := by
  subst hq
  intro hO H locs ls hP hD hS hl
  obtain ⟨C, T, N, hc, hkN, hw, hin⟩ := g
  exact va_get (fs := sl.mapIdx (slotV (xad X) σ o)) hO.1 hO.2.1 hO.2.2.2.2.2.1 hin hO.2.2.2.2.1 hO.2.2.2.2.2.2.2.1 hP o (ws_at hs) hc k hkN (hO.2.2.2.2.2.1 _ hw) (fun _ h9 => h9) (by rw [List.getElem?_mapIdx, hk]; rfl) d (kk hO H locs ls hP hD hS hl)
theorem r_getR {o ci k t idx : Nat} {sl : List (Nat × Nat)} (g : FG M.2.1 idx ci k) (hs : S[o]? = some (0, ci, sl)) (hk : sl[k]? = some (2, t)) (d : decode M.1 pc = .ok (.getfield idx, 3)) (hq : pc + 3 = q) (kk : J X S M σ q lv (.ref (xad X t) :: st)) : J X S M σ pc lv (.ref (xad X o) :: st) := by
  subst hq
  intro hO H locs ls hP hD hS hl
  obtain ⟨C, T, N, hc, hkN, hw, hin⟩ := g
  exact va_get (fs := sl.mapIdx (slotV (xad X) σ o)) hO.1 hO.2.1 hO.2.2.2.2.2.1 hin hO.2.2.2.2.1 hO.2.2.2.2.2.2.2.1 hP o (ws_at hs) hc k hkN (hO.2.2.2.2.2.1 _ hw) (fun _ h9 => h9) (by rw [List.getElem?_mapIdx, hk]; rfl) d (kk hO H locs ls hP hD hS hl)
theorem r_putI {o ci k t idx : Nat} {sl : List (Nat × Nat)} {v : Int32} {f : Mem → Option R} (g : FP M.2.1 idx ci k .int) (hs : S[o]? = some (0, ci, sl)) (hk : sl[k]? = some (0, t)) (d : decode M.1 pc = .ok (.putfield idx, 3)) (hq : pc + 3 = q) (h : nm (setI σ o k v) f = some out) (kk : ∀ σ2, f σ2 = some out → J X S M σ2 q lv st) : J X S M σ pc lv (.int v :: .ref (xad X o) :: st) := by
  subst hq
  intro hO H locs ls hP hD hS hl
  obtain ⟨C, T, N, t0, hc, hkN, hw, hin, hty, hnm, hfin, hd⟩ := g
  refine va_put (fs := sl.mapIdx (slotV (xad X) σ o)) hO.1 hO.2.1 hO.2.2.2.2.2.1 hin t0 hty hnm hO.2.2.2.2.1 hO.2.2.2.2.2.2.2.1 hP hD hS o (ws_at hs) hc k hkN (hO.2.2.2.2.2.1 _ hw) (fun _ h9 => h9) hfin hd rfl rfl (by rw [List.length_mapIdx]; exact (List.getElem?_eq_some_iff.mp hk).1) d (fun H1 locs1 hP1 hD1 hS1 => ?_)
  rw [ws_putI v hs hk] at hP1 hD1
  exact kk _ h hO H1 locs1 ls hP1 hD1 hS1 hl
theorem r_putL {o ci k t idx : Nat} {sl : List (Nat × Nat)} {v : Int64} {f : Mem → Option R} (g : FP M.2.1 idx ci k .long) (hs : S[o]? = some (0, ci, sl)) (hk : sl[k]? = some (1, t)) (d : decode M.1 pc = .ok (.putfield idx, 3)) (hq : pc + 3 = q) (h : nm (setL σ o k v) f = some out) (kk : ∀ σ2, f σ2 = some out → J X S M σ2 q lv st) : J X S M σ pc lv (.long v :: .ref (xad X o) :: st) := by
  subst hq
  intro hO H locs ls hP hD hS hl
  obtain ⟨C, T, N, t0, hc, hkN, hw, hin, hty, hnm, hfin, hd⟩ := g
  refine va_put (fs := sl.mapIdx (slotV (xad X) σ o)) hO.1 hO.2.1 hO.2.2.2.2.2.1 hin t0 hty hnm hO.2.2.2.2.1 hO.2.2.2.2.2.2.2.1 hP hD hS o (ws_at hs) hc k hkN (hO.2.2.2.2.2.1 _ hw) (fun _ h9 => h9) hfin hd rfl rfl (by rw [List.length_mapIdx]; exact (List.getElem?_eq_some_iff.mp hk).1) d (fun H1 locs1 hP1 hD1 hS1 => ?_)
  rw [ws_putL v hs hk] at hP1 hD1
  exact kk _ h hO H1 locs1 ls hP1 hD1 hS1 hl
theorem r_iald {o n : Nat} {sl : List (Nat × Nat)} {i : Int32} {f : Nat → Option R} (hs : S[o]? = some (1, n, sl)) (d : decode M.1 pc = .ok (.iaload, 1)) (hq : pc + 1 = q) (h : rd i n f = some out) (kk : ∀ j, f j = some out → J X S M σ q lv (.int (σ.1 o j) :: st)) : J X S M σ pc lv (.int i :: .ref (xad X o) :: st) := by
  subst hq
  intro hO H locs ls hP hD hS hl
  obtain ⟨hin, h2⟩ := rd_of h
  exact va_iald hO.1 hO.2.1 hO.2.2.2.2.2.2.2.1 hP o 0 (ws_at hs) rfl hin d (kk _ h2 hO H locs ls hP hD hS hl)
theorem r_zald {o n : Nat} {sl : List (Nat × Nat)} {i : Int32} {f : Nat → Option R} (hs : S[o]? = some (2, n, sl)) (d : decode M.1 pc = .ok (.baload, 1)) (hq : pc + 1 = q) (h : rd i n f = some out) (kk : ∀ j, f j = some out → J X S M σ q lv (.int (σ.1 o j) :: st)) : J X S M σ pc lv (.int i :: .ref (xad X o) :: st) := by
  subst hq
  intro hO H locs ls hP hD hS hl
  obtain ⟨hin, h2⟩ := rd_of h
  exact va_zald hO.1 hO.2.1 hO.2.2.2.2.2.2.2.1 hP o 1 (ws_at hs) rfl hin d (kk _ h2 hO H locs ls hP hD hS hl)
theorem r_lald {o n : Nat} {sl : List (Nat × Nat)} {i : Int32} {f : Nat → Option R} (hs : S[o]? = some (3, n, sl)) (d : decode M.1 pc = .ok (.laload, 1)) (hq : pc + 1 = q) (h : rd i n f = some out) (kk : ∀ j, f j = some out → J X S M σ q lv (.long (σ.2 o j) :: st)) : J X S M σ pc lv (.int i :: .ref (xad X o) :: st) := by
  subst hq
  intro hO H locs ls hP hD hS hl
  obtain ⟨hin, h2⟩ := rd_of h
  exact va_lald hO.1 hO.2.1 hO.2.2.2.2.2.2.2.1 hP o 2 (ws_at hs) rfl hin d (kk _ h2 hO H locs ls hP hD hS hl)
theorem r_iast {o n : Nat} {sl : List (Nat × Nat)} {i : Int32} {v : Int32} {f : Mem → Option R} (hs : S[o]? = some (1, n, sl)) (d : decode M.1 pc = .ok (.iastore, 1)) (hq : pc + 1 = q) (h : stI σ o n i v f = some out) (kk : ∀ σ2, f σ2 = some out → J X S M σ2 q lv st) : J X S M σ pc lv (.int v :: .int i :: .ref (xad X o) :: st) := by
  subst hq
  intro hO H locs ls hP hD hS hl
  obtain ⟨hin, h2⟩ := rd_of h
  refine va_iast hO.1 hO.2.1 hO.2.2.2.2.2.2.2.1 hP hD hS o 0 (ws_at hs) rfl hin d (fun H1 locs1 hP1 hD1 hS1 => ?_)
  rw [ws_putAI _ _ hs] at hP1 hD1
  exact kk _ h2 hO H1 locs1 ls hP1 hD1 hS1 hl
theorem r_zast {o n : Nat} {sl : List (Nat × Nat)} {i : Int32} {v : Int32} {f : Mem → Option R} (hs : S[o]? = some (2, n, sl)) (d : decode M.1 pc = .ok (.bastore, 1)) (hq : pc + 1 = q) (h : stZ σ o n i v f = some out) (kk : ∀ σ2, f σ2 = some out → J X S M σ2 q lv st) : J X S M σ pc lv (.int v :: .int i :: .ref (xad X o) :: st) := by
  subst hq
  intro hO H locs ls hP hD hS hl
  obtain ⟨hin, h2⟩ := rd_of h
  refine va_zast hO.1 hO.2.1 hO.2.2.2.2.2.2.2.1 hP hD hS o 1 (ws_at hs) rfl hin d (fun H1 locs1 hP1 hD1 hS1 => ?_)
  rw [ws_putAZ _ _ hs] at hP1 hD1
  exact kk _ h2 hO H1 locs1 ls hP1 hD1 hS1 hl
theorem r_last {o n : Nat} {sl : List (Nat × Nat)} {i : Int32} {v : Int64} {f : Mem → Option R} (hs : S[o]? = some (3, n, sl)) (d : decode M.1 pc = .ok (.lastore, 1)) (hq : pc + 1 = q) (h : stL σ o n i v f = some out) (kk : ∀ σ2, f σ2 = some out → J X S M σ2 q lv st) : J X S M σ pc lv (.long v :: .int i :: .ref (xad X o) :: st) := by
  subst hq
  intro hO H locs ls hP hD hS hl
  obtain ⟨hin, h2⟩ := rd_of h
  refine va_last hO.1 hO.2.1 hO.2.2.2.2.2.2.2.1 hP hD hS o 2 (ws_at hs) rfl hin d (fun H1 locs1 hP1 hD1 hS1 => ?_)
  rw [ws_putAL _ _ hs] at hP1 hD1
  exact kk _ h2 hO H1 locs1 ls hP1 hD1 hS1 hl
theorem r_alen {o n tag : Nat} {sl : List (Nat × Nat)} {v : Int32} (hs : S[o]? = some (tag, n, sl)) (ht : tag = 1 ∨ tag = 3 ∨ tag = 4) (hv : Int32.ofNat n = v) (d : decode M.1 pc = .ok (.arraylength, 1)) (hq : pc + 1 = q) (kk : J X S M σ q lv (.int v :: st)) : J X S M σ pc lv (.ref (xad X o) :: st) := by
  subst hq
  intro hO H locs ls hP hD hS hl
  rcases ht with rfl | rfl | rfl
  · exact va_alen hO.1 hO.2.1 hO.2.2.2.2.2.2.2.1 hP o 0 (x := (n, .inl (σ.1 o))) (ws_at hs) rfl hv d (kk hO H locs ls hP hD hS hl)
  · exact va_alen hO.1 hO.2.1 hO.2.2.2.2.2.2.2.1 hP o 2 (x := (n, .inr (.inl (σ.2 o)))) (ws_at hs) rfl hv d (kk hO H locs ls hP hD hS hl)
  · exact va_alen hO.1 hO.2.1 hO.2.2.2.2.2.2.2.1 hP o 3 (ws_at hs) rfl hv d (kk hO H locs ls hP hD hS hl)
theorem r_aald {o n b t : Nat} {i : Int32} {f : Nat → Option R} (hs : S[o]? = some (4, n, [(t, b)])) (d : decode M.1 pc = .ok (.aaload, 1)) (hq : pc + 1 = q) (h : rd i n f = some out) (kk : ∀ j, j < n → f j = some out → J X S M σ q lv (.ref (xad X (b + j)) :: st)) : J X S M σ pc lv (.int i :: .ref (xad X o) :: st) := by
  subst hq
  intro hO H locs ls hP hD hS hl
  obtain ⟨hin, h2⟩ := rd_of h
  have hlt : i.toNatClampNeg < n := Nat.not_le.mp fun q => hin (Or.inr q)
  refine va_aldq hO.1 hO.2.1 hO.2.2.2.2.2.2.2.1 hP o 3 (ws_at hs) rfl hin d ?_
  have e : va_rf (refA (xad X) n (((([(t, b)] : List (Nat × Nat)).head?).map (·.2)).getD 0) i.toNatClampNeg) = .ref (xad X (b + i.toNatClampNeg)) := by
    unfold refA
    rw [if_pos hlt]
    rfl
  show W _ _ _ _ _ _ _ _ _ _ _ _ _ _ _ (F0 _ _ _ (va_rf (refA (xad X) n (((([(t, b)] : List (Nat × Nat)).head?).map (·.2)).getD 0) i.toNatClampNeg) :: st))
  rw [e]
  exact kk _ hlt h2 hO H locs ls hP hD hS hl
theorem r_iret {v : Int32} {out : Int32 × Mem} (hm : M.2.2.2.1 = some .int) (d : decode M.1 pc = .ok (.ireturn, 1)) (h : some (v, σ) = some out) (hE : Ends X S (some (.int out.1)) out.2) : J X S M σ pc lv [.int v] := by
  intro hO H locs ls hP hD hS hl
  cases h
  exact W.iret hO.1 hO.2.1 (hO.2.2.1.trans hm) (fun t ht hW => hE t H locs ht hP hD hS) hS.2.2 d hO.2.2.2.2.2.2.1
theorem r_zret {v : Int32} {out : Int32 × Mem} (hm : M.2.2.2.1 = some .boolean) (d : decode M.1 pc = .ok (.ireturn, 1)) (h : rz v σ = some out) (hE : Ends X S (some (.int out.1)) out.2) : J X S M σ pc lv [.int v] := by
  unfold rz at h
  by_cases hc : v = 0 ∨ v = 1
  · rw [if_pos hc] at h
    have hn : narrow .boolean (.int v) = .int v := by rcases hc with hc | hc <;> (rw [hc]; decide +kernel)
    intro hO H locs ls hP hD hS hl
    cases h
    exact W.zret hO.1 hO.2.1 (hO.2.2.1.trans hm) hn (fun t ht hW => hE t H locs ht hP hD hS) hS.2.2 d hO.2.2.2.2.2.2.1
  · rw [if_neg hc] at h; cases h
theorem r_lret {v : Int64} {out : Int64 × Mem} (hm : M.2.2.2.1 = some .long) (d : decode M.1 pc = .ok (.lreturn, 1)) (h : some (v, σ) = some out) (hE : Ends X S (some (.long out.1)) out.2) : J X S M σ pc lv [.long v] := by
  intro hO H locs ls hP hD hS hl
  cases h
  exact W.lret hO.1 hO.2.1 (hO.2.2.1.trans hm) (fun t ht hW => hE t H locs ht hP hD hS) hS.2.2 d hO.2.2.2.2.2.2.1
theorem r_vret {out : Mem} (hm : M.2.2.2.1 = none) (d : decode M.1 pc = .ok (.return_, 1)) (h : some σ = some out) (hE : Ends X S none out) : J X S M σ pc lv [] := by
  intro hO H locs ls hP hD hS hl
  cases h
  exact W.vret hO.1 hO.2.1 (hO.2.2.1.trans hm) (fun t ht hW => hE t H locs ht hP hD hS) hS.2.2 d hO.2.2.2.2.2.2.1
theorem r_aret {o : Nat} {out : Option Nat × Mem} {C : String} (hm : M.2.2.2.1 = some (.object C)) (d : decode M.1 pc = .ok (.areturn, 1)) (h : some (some o, σ) = some out) (hE : Ends X S (some (ov (xad X) out.1)) out.2) : J X S M σ pc lv [.ref (xad X o)] := by
  intro hO H locs ls hP hD hS hl
  cases h
  exact W.aret hO.1 hO.2.1 (hO.2.2.1.trans hm) (Or.inl ⟨C, rfl⟩) (Or.inr ⟨_, rfl⟩) (fun t ht hW => hE t H locs ht hP hD hS) hS.2.2 d hO.2.2.2.2.2.2.1
theorem r_aretN {out : Option Nat × Mem} {C : String} (hm : M.2.2.2.1 = some (.object C)) (d : decode M.1 pc = .ok (.areturn, 1)) (h : some (none, σ) = some out) (hE : Ends X S (some (ov (xad X) out.1)) out.2) : J X S M σ pc lv [.null] := by
  intro hO H locs ls hP hD hS hl
  cases h
  exact W.aret hO.1 hO.2.1 (hO.2.2.1.trans hm) (Or.inl ⟨C, rfl⟩) (Or.inl rfl) (fun t ht hW => hE t H locs ht hP hD hS) hS.2.2 d hO.2.2.2.2.2.2.1
/-- a call's end: its answer, and the memory behind it -/
theorem any_call {p : Program} {l : Launch} {e : Env} {R : Room} {s : State} {m : MethodId} {args : Array Value} {below : List Frame} {meth : Method} {c : Code} {H : Heap} {locs : List Loc} {Q : State → Prop} {pc : Nat} {ls : Array Slot} {rest st0 : List Value} {A0 A1 : Nat → Prop} {H0 : Heap} {free : Addr → Prop} {r : Option Value} {P : State → Prop}
    (hr : va_Run p l e R s m args below meth c H locs 0 0 0 0 (F0 m pc ls st0) rest (fun st oc t => (oc = .returned r ∧ P t) ∧ va_F A1 st t) free) (hS : va_S A0 H0 H locs) (hA : ∀ q, A1 q → A0 q) (hf : ∀ q, free q → A0 q)
    (kk : ∀ (t : State) (H1 : Heap) (locs1 : List Loc), t.heap = H1 → P t → va_S A0 H0 H1 locs1 → W p l e R s m args below meth c H1 locs1 0 0 Q (F0 m (pc + 3) ls (r.toList ++ rest))) : W p l e R s m args below meth c H locs 0 0 Q (F0 m pc ls st0) := by
  intro T hT X
  obtain ⟨v, st₀, t, T', L, h0, X', hL, e1, e2, ⟨⟨hv, hb⟩, hz, hk⟩, st⟩ := hr T hT X
  cases hv
  rw [h0] at hz hk
  obtain ⟨t2, a1, b1⟩ := kk t T'.heap (locs ++ L) e1.symm hb
    ⟨Nat.le_trans hS.1 (by rw [e1]; exact hz), fun q h1 h2 => by rw [e1, hk q (Nat.lt_of_lt_of_le h1 hS.1) (fun z => h2 (hA q z))]; exact hS.2.1 q h1 h2, fun q hq => by
      rcases List.mem_append.mp hq with h | h
      · exact hS.2.2 q h
      · exact hf _ (hL q h)⟩ T' rfl X'
  exact ⟨t2, st t2 a1, b1⟩
def MV (own : String) (idx : Nat) (C : String) (y : MethodName) (cb : ByteArray) (nl : Nat) (ret : Option FieldType) (n : Nat) : Prop := GoodIn BW (wsV own idx C y (.code y cb nl ret :: BW)) ∧ (y.cls = C ∧ y.cls ≠ "java/lang/invoke/MethodHandle" ∧ y.cls ≠ "java/lang/invoke/VarHandle" ∧ (parseMethodDescriptor y.desc).map (fun d => d.parameters.length) = some n) ∧ nl ≤ 21
def MS (own : String) (idx : Nat) (y : MethodName) (cb : ByteArray) (nl : Nat) (ret : Option FieldType) (n : Nat) : Prop := GoodIn BW (va_wsS own idx y (.code y cb nl ret :: BW)) ∧ (y.cls ≠ "java/lang/invoke/MethodHandle" ∧ y.cls ≠ "java/lang/invoke/VarHandle" ∧ (parseMethodDescriptor y.desc).map (fun d => d.parameters.length) = some n) ∧ nl ≤ 21
def MN (own : String) (idx : Nat) (y : MethodName) (host : String) (cb : ByteArray) (nl : Nat) (ret : Option FieldType) (n : Nat) : Prop := GoodIn BW (.code y cb nl ret :: BW) ∧ ((own, idx, y, host) ∈ nestL ∧ Cond.initialized y.cls ∈ BW ∧ Cond.static y ∈ BW) ∧ (y.cls ≠ "java/lang/invoke/MethodHandle" ∧ y.cls ≠ "java/lang/invoke/VarHandle" ∧ (parseMethodDescriptor y.desc).map (fun d => d.parameters.length) = some n) ∧ nl ≤ 21
theorem gBW {ws : List Cond} (h : ∀ w ∈ ws, w ∈ BW) : GoodIn BW ws := fun w hw => ⟨h w hw, good_of_word (bw_good w (h w hw))⟩
theorem blindC {S : List SC} {D : va_G} {ca : Nat → ClassId} {ad : Nat → Nat} {σ : Mem} {sz : Nat} {as : List Value} : FrameBlind (va_Pc as (fun U => U.heap.size = sz ∧ va_P D vwCl (wsOf S ca ad σ) U.heap ∧ va_K D vwCl (tyL ca) U ∧ va_D (fun _ => True) (wsOf S ca ad σ) ∧ NK U)) := by
  intro a U g mk q
  obtain ⟨q0, q1, qP, qK, qD, qN⟩ := q
  exact ⟨q0, q1, qP, va_K.moved (u := U) (U := U.calling g mk a) (Vm.Alike.refl U.vm) qK, qD, qN.same rfl⟩
theorem freeA {A : Nat → Prop} {ws : va_W} {H0 H : Heap} {locs : List Loc} (hD : va_D A ws) (hS : va_S A H0 H locs) (hA : ∀ q, H0.size ≤ q → A q) : ∀ q, va_A ws H.size q → A q := by
  intro q h
  rcases h with ⟨k, e, h⟩ | h
  · exact hD.2 k (q, e) h
  · exact hA q (Nat.le_trans hS.1 h)
theorem room_ok {d' d nl : Nat} (h : d' < d) (hn : nl ≤ 21) : (rmL d').frames + 1 ≤ (rmL d).frames ∧ 8 + (nl + 11) + (rmL d').locals ≤ (rmL d).locals := by
  show d' + 1 ≤ d ∧ 8 + (nl + 11) + 50 * d' ≤ 50 * d
  omega

theorem r_callV {y : MethodName} {cb : ByteArray} {nl n d' o ci idx : Nat} {C : String} {T : u_T} {N : Nat} {ret : Option FieldType} {as : (Nat → Nat) → List Value} {r : (Nat → Nat) → Option Value} {σ' : Mem} {sl : List (Nat × Nat)} (As rest : List Value) (hc : Con S d' y cb nl ret as σ r σ') (mv : MV M.2.1 idx C y cb nl ret n) (hd : d' < M.2.2.2.2) (hs : S[o]? = some (0, ci, sl)) (hcl : vwCl[ci]? = some (C, T, N)) (has : as (xad X) = .ref (xad X o) :: As) (hn : As.length = n) {st0 : List Value} (hst : st0 = As.reverse ++ .ref (xad X o) :: rest) (hr : (rest.map fun v => v.category).sum ≤ 8) (d : decode M.1 pc = .ok (.invokevirtual idx, 3)) (hq : pc + 3 = q) (kk : J X S M σ' q lv ((r (xad X)).toList ++ rest)) : J X S M σ pc lv st0 := by
  subst hq
  intro hO H locs ls hP hD hS hl
  have hF := freeA hD hS hO.2.2.2.2.2.2.2.2.2
  refine any_call (r := r (xad X)) (P := fun t => va_P (xD X) vwCl (wsOf S (xk X) (xad X) σ') t.heap ∧ va_D (va_A (wsOf S (xk X) (xad X) σ) H.size) (wsOf S (xk X) (xad X) σ')) (va_runV (As := As) (rest := rest) ⟨hO.1, hO.2.1, hO.2.2.2.1, hO.2.2.2.2.1, hO.2.2.2.2.2.1⟩ (hc (xl X) (xD X) (xk X) (xad X) H.size) (cwV n hO.2.2.2.2.2.1 mv.1 rfl rfl rfl mv.2.1 (room_ok hd mv.2.2)) ⟨blindC, va_recv hO.2.2.2.2.2.2.2.1 hP hcl (ws_at hs), fun U hU hW => ⟨by rw [has], by rw [hU], by rw [hU]; exact hP, va_K.moved hW.alike hO.2.2.2.2.2.2.2.1, hD.weaken (fun _ _ _ _ => trivial), hO.2.2.2.2.2.2.2.2.1.warm hW⟩⟩ rfl hn hl.1 hst (lv_room hr) d ⟨Nat.le_refl _, Nat.le_refl _⟩) hS hF hF (fun t H1 locs1 ht hPt hS1 => ?_)
  have hk := kk hO H1 locs1 ls (by rw [← ht]; exact hPt.1) (hPt.2.weaken (fun _ _ _ h => hF _ h)) hS1 hl
  exact hk
theorem r_callS {y : MethodName} {cb : ByteArray} {nl n d' idx : Nat} {ret : Option FieldType} {as : (Nat → Nat) → List Value} {r : (Nat → Nat) → Option Value} {σ' : Mem} (rest : List Value) (hc : Con S d' y cb nl ret as σ r σ') (ms : MS M.2.1 idx y cb nl ret n) (hd : d' < M.2.2.2.2) (hn : (as (xad X)).length = n) {st0 : List Value} (hst : st0 = (as (xad X)).reverse ++ rest) (hr : (rest.map fun v => v.category).sum ≤ 8) (d : decode M.1 pc = .ok (.invokestatic idx, 3)) (hq : pc + 3 = q) (kk : J X S M σ' q lv ((r (xad X)).toList ++ rest)) : J X S M σ pc lv st0 := by
  subst hq
  intro hO H locs ls hP hD hS hl
  have hF := freeA hD hS hO.2.2.2.2.2.2.2.2.2
  refine any_call (r := r (xad X)) (P := fun t => va_P (xD X) vwCl (wsOf S (xk X) (xad X) σ') t.heap ∧ va_D (va_A (wsOf S (xk X) (xad X) σ) H.size) (wsOf S (xk X) (xad X) σ')) (va_runS (As := as (xad X)) (rest := rest) ⟨hO.1, hO.2.1, hO.2.2.2.1, hO.2.2.2.2.1, hO.2.2.2.2.2.1⟩ (hc (xl X) (xD X) (xk X) (xad X) H.size) (va_cwS n hO.2.2.2.2.2.1 ms.1 rfl rfl rfl ms.2.1 (room_ok hd ms.2.2)) ⟨blindC, fun U hU hW => ⟨rfl, by rw [hU], by rw [hU]; exact hP, va_K.moved hW.alike hO.2.2.2.2.2.2.2.1, hD.weaken (fun _ _ _ _ => trivial), hO.2.2.2.2.2.2.2.2.1.warm hW⟩⟩ rfl hn hl.1 hst (lv_room hr) d ⟨Nat.le_refl _, Nat.le_refl _⟩) hS hF hF (fun t H1 locs1 ht hPt hS1 => ?_)
  have hk := kk hO H1 locs1 ls (by rw [← ht]; exact hPt.1) (hPt.2.weaken (fun _ _ _ h => hF _ h)) hS1 hl
  exact hk
theorem r_callN {y : MethodName} {host : String} {cb : ByteArray} {nl n d' idx : Nat} {ret : Option FieldType} {as : (Nat → Nat) → List Value} {r : (Nat → Nat) → Option Value} {σ' : Mem} (rest : List Value) (hc : Con S d' y cb nl ret as σ r σ') (mn : MN M.2.1 idx y host cb nl ret n) (hd : d' < M.2.2.2.2) (hn : (as (xad X)).length = n) {st0 : List Value} (hst : st0 = (as (xad X)).reverse ++ rest) (hr : (rest.map fun v => v.category).sum ≤ 8) (d : decode M.1 pc = .ok (.invokestatic idx, 3)) (hq : pc + 3 = q) (kk : J X S M σ' q lv ((r (xad X)).toList ++ rest)) : J X S M σ pc lv st0 := by
  subst hq
  intro hO H locs ls hP hD hS hl
  have hF := freeA hD hS hO.2.2.2.2.2.2.2.2.2
  refine any_call (r := r (xad X)) (P := fun t => va_P (xD X) vwCl (wsOf S (xk X) (xad X) σ') t.heap ∧ va_D (va_A (wsOf S (xk X) (xad X) σ) H.size) (wsOf S (xk X) (xad X) σ')) (va_runSN (As := as (xad X)) (rest := rest) ⟨hO.1, hO.2.1, hO.2.2.2.1, hO.2.2.2.2.1, hO.2.2.2.2.2.1⟩ (hc (xl X) (xD X) (xk X) (xad X) H.size) ⟨va_cnB (host := host) n hO.2.2.2.2.2.1 mn.1 rfl rfl rfl (hO.2.2.2.2.2.2.2.2.1 _ mn.2.1.1) (hO.2.2.2.2.2.1 _ mn.2.1.2.1) mn.2.2.1 (room_ok hd mn.2.2.2), hO.2.2.2.2.2.1 _ mn.2.1.2.2, trivial⟩ ⟨blindC, fun U hU hW => ⟨rfl, by rw [hU], by rw [hU]; exact hP, va_K.moved hW.alike hO.2.2.2.2.2.2.2.1, hD.weaken (fun _ _ _ _ => trivial), hO.2.2.2.2.2.2.2.2.1.warm hW⟩⟩ rfl hn hl.1 hst (lv_room hr) d ⟨Nat.le_refl _, Nat.le_refl _⟩) hS hF hF (fun t H1 locs1 ht hPt hS1 => ?_)
  have hk := kk hO H1 locs1 ls (by rw [← ht]; exact hPt.1) (hPt.2.weaken (fun _ _ _ h => hF _ h)) hS1 hl
  exact hk
theorem bi_of {α R : Type} {out : R} {x : Option (α × Mem)} {f : α → Mem → Option R} (h : bi x f = some out) : ∃ r σ', x = some (r, σ') ∧ f r σ' = some out := by
  cases x with
  | none => cases h
  | some p => exact ⟨p.1, p.2, rfl, h⟩
theorem bv_of {R : Type} {out : R} {x : Option Mem} {f : Mem → Option R} (h : bv x f = some out) : ∃ σ', x = some σ' ∧ f σ' = some out := by
  cases x with
  | none => cases h
  | some p => exact ⟨p, rfl, h⟩
theorem sh_of {R : Type} {out : R} {v : Option Nat} {a : Option R} {f : Nat → Option R} (h : sh v a f = some out) : (v = none ∧ a = some out) ∨ ∃ o, v = some o ∧ shOk o ∧ f o = some out := by
  cases v with
  | none => exact Or.inl ⟨rfl, h⟩
  | some o =>
    unfold sh at h
    by_cases hc : 7 ≤ o ∧ o ≤ 10
    · simp only [if_pos hc] at h; exact Or.inr ⟨o, rfl, hc, h⟩
    · simp only [if_neg hc] at h; cases h
end JR
end
