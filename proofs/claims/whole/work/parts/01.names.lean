-- ===== PART A: goes FIRST, ahead of the names: the tables' words, and 'selects' of the private methods out of them =====
/-- a private method of a class that the tables say can be made, by its rows of tables_1 -/
def lw_okq (q : MethodName × Nat) : Prop := (q.1.cls ≠ "java/lang/invoke/MethodHandle" ∧ q.1.cls ≠ "java/lang/invoke/VarHandle") ∧ Cond.instantiable q.1.cls q.2 ∈ tables_1 ∧ Cond.privateMethod q.1 ∈ tables_1 ∧ Cond.instanceMethod q.1 ∈ tables_1
theorem lw_p0 : lw_okq (⟨"IceYard", "sheetAt", "(I)LIceYard$Sheet;"⟩, 13) := ⟨⟨by decide +kernel, by decide +kernel⟩, List.mem_of_getElem? (i := 16) (by decide +kernel), List.mem_of_getElem? (i := 291) (by decide +kernel), List.mem_of_getElem? (i := 292) (by decide +kernel)⟩
theorem lw_p1 : lw_okq (⟨"IceYard", "faulty", "(I)I"⟩, 13) := ⟨⟨by decide +kernel, by decide +kernel⟩, List.mem_of_getElem? (i := 16) (by decide +kernel), List.mem_of_getElem? (i := 310) (by decide +kernel), List.mem_of_getElem? (i := 311) (by decide +kernel)⟩
theorem lw_p2 : lw_okq (⟨"IceYard", "takeYard", "(LIceYard$Sheet;II)V"⟩, 13) := ⟨⟨by decide +kernel, by decide +kernel⟩, List.mem_of_getElem? (i := 16) (by decide +kernel), List.mem_of_getElem? (i := 337) (by decide +kernel), List.mem_of_getElem? (i := 338) (by decide +kernel)⟩
theorem lw_p3 : lw_okq (⟨"IceYard$Ground", "layCell", "(II)V"⟩, 13) := ⟨⟨by decide +kernel, by decide +kernel⟩, List.mem_of_getElem? (i := 24) (by decide +kernel), List.mem_of_getElem? (i := 347) (by decide +kernel), List.mem_of_getElem? (i := 348) (by decide +kernel)⟩
theorem lw_p4 : lw_okq (⟨"IceYard$Ground", "layCrack", "(I)V"⟩, 13) := ⟨⟨by decide +kernel, by decide +kernel⟩, List.mem_of_getElem? (i := 24) (by decide +kernel), List.mem_of_getElem? (i := 351) (by decide +kernel), List.mem_of_getElem? (i := 352) (by decide +kernel)⟩
theorem lw_p5 : lw_okq (⟨"IceYard$Ground", "layBlock", "(II)V"⟩, 13) := ⟨⟨by decide +kernel, by decide +kernel⟩, List.mem_of_getElem? (i := 24) (by decide +kernel), List.mem_of_getElem? (i := 356) (by decide +kernel), List.mem_of_getElem? (i := 357) (by decide +kernel)⟩
theorem lw_p6 : lw_okq (⟨"IceYard$Ground", "layWays", "()V"⟩, 13) := ⟨⟨by decide +kernel, by decide +kernel⟩, List.mem_of_getElem? (i := 24) (by decide +kernel), List.mem_of_getElem? (i := 360) (by decide +kernel), List.mem_of_getElem? (i := 361) (by decide +kernel)⟩
theorem lw_p7 : lw_okq (⟨"IceYard$Ground", "layWay", "(IIZI)V"⟩, 13) := ⟨⟨by decide +kernel, by decide +kernel⟩, List.mem_of_getElem? (i := 24) (by decide +kernel), List.mem_of_getElem? (i := 364) (by decide +kernel), List.mem_of_getElem? (i := 365) (by decide +kernel)⟩
theorem lw_p8 : lw_okq (⟨"IceYard", "refusalOfPush", "(II)I"⟩, 13) := ⟨⟨by decide +kernel, by decide +kernel⟩, List.mem_of_getElem? (i := 16) (by decide +kernel), List.mem_of_getElem? (i := 429) (by decide +kernel), List.mem_of_getElem? (i := 430) (by decide +kernel)⟩
theorem lw_p9 : lw_okq (⟨"IceYard$Slider", "load", "(J)V"⟩, 10) := ⟨⟨by decide +kernel, by decide +kernel⟩, List.mem_of_getElem? (i := 83) (by decide +kernel), List.mem_of_getElem? (i := 437) (by decide +kernel), List.mem_of_getElem? (i := 438) (by decide +kernel)⟩
theorem lw_p10 : lw_okq (⟨"IceYard$Slider", "slideOne", "(II)I"⟩, 10) := ⟨⟨by decide +kernel, by decide +kernel⟩, List.mem_of_getElem? (i := 83) (by decide +kernel), List.mem_of_getElem? (i := 444) (by decide +kernel), List.mem_of_getElem? (i := 445) (by decide +kernel)⟩
theorem lw_p11 : lw_okq (⟨"IceYard$Slider", "blockIn", "(I)I"⟩, 10) := ⟨⟨by decide +kernel, by decide +kernel⟩, List.mem_of_getElem? (i := 83) (by decide +kernel), List.mem_of_getElem? (i := 455) (by decide +kernel), List.mem_of_getElem? (i := 456) (by decide +kernel)⟩
theorem lw_p12 : lw_okq (⟨"IceYard$Slider", "leave", "(II)V"⟩, 10) := ⟨⟨by decide +kernel, by decide +kernel⟩, List.mem_of_getElem? (i := 83) (by decide +kernel), List.mem_of_getElem? (i := 459) (by decide +kernel), List.mem_of_getElem? (i := 460) (by decide +kernel)⟩
theorem lw_p13 : lw_okq (⟨"IceYard$Search", "note", "(JII)Z"⟩, 9) := ⟨⟨by decide +kernel, by decide +kernel⟩, List.mem_of_getElem? (i := 133) (by decide +kernel), List.mem_of_getElem? (i := 502) (by decide +kernel), List.mem_of_getElem? (i := 503) (by decide +kernel)⟩
theorem lw_p14 : lw_okq (⟨"IceYard$Search", "slotOf", "(J)I"⟩, 9) := ⟨⟨by decide +kernel, by decide +kernel⟩, List.mem_of_getElem? (i := 133) (by decide +kernel), List.mem_of_getElem? (i := 506) (by decide +kernel), List.mem_of_getElem? (i := 507) (by decide +kernel)⟩
theorem lw_p15 : lw_okq (⟨"IceYard$Search", "goOnFrom", "(II)I"⟩, 9) := ⟨⟨by decide +kernel, by decide +kernel⟩, List.mem_of_getElem? (i := 133) (by decide +kernel), List.mem_of_getElem? (i := 511) (by decide +kernel), List.mem_of_getElem? (i := 512) (by decide +kernel)⟩
def lw_privs_1 : List (MethodName × Nat) := [(⟨"IceYard", "sheetAt", "(I)LIceYard$Sheet;"⟩, 13), (⟨"IceYard", "faulty", "(I)I"⟩, 13), (⟨"IceYard", "takeYard", "(LIceYard$Sheet;II)V"⟩, 13), (⟨"IceYard$Ground", "layCell", "(II)V"⟩, 13), (⟨"IceYard$Ground", "layCrack", "(I)V"⟩, 13), (⟨"IceYard$Ground", "layBlock", "(II)V"⟩, 13), (⟨"IceYard$Ground", "layWays", "()V"⟩, 13), (⟨"IceYard$Ground", "layWay", "(IIZI)V"⟩, 13), (⟨"IceYard", "refusalOfPush", "(II)I"⟩, 13), (⟨"IceYard$Slider", "load", "(J)V"⟩, 10), (⟨"IceYard$Slider", "slideOne", "(II)I"⟩, 10), (⟨"IceYard$Slider", "blockIn", "(I)I"⟩, 10), (⟨"IceYard$Slider", "leave", "(II)V"⟩, 10), (⟨"IceYard$Search", "note", "(JII)Z"⟩, 9), (⟨"IceYard$Search", "slotOf", "(J)I"⟩, 9), (⟨"IceYard$Search", "goOnFrom", "(II)I"⟩, 9)]
theorem lw_r1 : ∀ q ∈ lw_privs_1, lw_okq q := List.forall_mem_cons.mpr ⟨lw_p0, List.forall_mem_cons.mpr ⟨lw_p1, List.forall_mem_cons.mpr ⟨lw_p2, List.forall_mem_cons.mpr ⟨lw_p3, List.forall_mem_cons.mpr ⟨lw_p4, List.forall_mem_cons.mpr ⟨lw_p5, List.forall_mem_cons.mpr ⟨lw_p6, List.forall_mem_cons.mpr ⟨lw_p7, List.forall_mem_cons.mpr ⟨lw_p8, List.forall_mem_cons.mpr ⟨lw_p9, List.forall_mem_cons.mpr ⟨lw_p10, List.forall_mem_cons.mpr ⟨lw_p11, List.forall_mem_cons.mpr ⟨lw_p12, List.forall_mem_cons.mpr ⟨lw_p13, List.forall_mem_cons.mpr ⟨lw_p14, List.forall_mem_cons.mpr ⟨lw_p15, fun _ h => absurd h List.not_mem_nil⟩⟩⟩⟩⟩⟩⟩⟩⟩⟩⟩⟩⟩⟩⟩⟩
theorem lw_p16 : lw_okq (⟨"IceYard$Search", "writeRow", "(II)V"⟩, 9) := ⟨⟨by decide +kernel, by decide +kernel⟩, List.mem_of_getElem? (i := 133) (by decide +kernel), List.mem_of_getElem? (i := 519) (by decide +kernel), List.mem_of_getElem? (i := 520) (by decide +kernel)⟩
theorem lw_p17 : lw_okq (⟨"IceYard$Game", "winningPush", "(JII)I"⟩, 3) := ⟨⟨by decide +kernel, by decide +kernel⟩, List.mem_of_getElem? (i := 168) (by decide +kernel), List.mem_of_getElem? (i := 535) (by decide +kernel), List.mem_of_getElem? (i := 536) (by decide +kernel)⟩
theorem lw_p18 : lw_okq (⟨"IceYard$Game", "winsWhateverComes", "(JII)Z"⟩, 3) := ⟨⟨by decide +kernel, by decide +kernel⟩, List.mem_of_getElem? (i := 168) (by decide +kernel), List.mem_of_getElem? (i := 540) (by decide +kernel), List.mem_of_getElem? (i := 541) (by decide +kernel)⟩
theorem lw_p19 : lw_okq (⟨"IceYard$RowCount", "walk", "(JIIJ)V"⟩, 6) := ⟨⟨by decide +kernel, by decide +kernel⟩, List.mem_of_getElem? (i := 185) (by decide +kernel), List.mem_of_getElem? (i := 560) (by decide +kernel), List.mem_of_getElem? (i := 561) (by decide +kernel)⟩
theorem lw_p20 : lw_okq (⟨"IceYard$RowCount", "countRow", "(I)V"⟩, 6) := ⟨⟨by decide +kernel, by decide +kernel⟩, List.mem_of_getElem? (i := 185) (by decide +kernel), List.mem_of_getElem? (i := 567) (by decide +kernel), List.mem_of_getElem? (i := 568) (by decide +kernel)⟩
theorem lw_p21 : lw_okq (⟨"IceYard$SandPlan", "bringsHome", "(JIII)Z"⟩, 3) := ⟨⟨by decide +kernel, by decide +kernel⟩, List.mem_of_getElem? (i := 210) (by decide +kernel), List.mem_of_getElem? (i := 584) (by decide +kernel), List.mem_of_getElem? (i := 585) (by decide +kernel)⟩
theorem lw_p22 : lw_okq (⟨"IceYard$SandPlan", "freeIce", "(J)J"⟩, 3) := ⟨⟨by decide +kernel, by decide +kernel⟩, List.mem_of_getElem? (i := 210) (by decide +kernel), List.mem_of_getElem? (i := 589) (by decide +kernel), List.mem_of_getElem? (i := 590) (by decide +kernel)⟩
theorem lw_p23 : lw_okq (⟨"IceYard$Sheet", "cut", "(I)I"⟩, 3) := ⟨⟨by decide +kernel, by decide +kernel⟩, List.mem_of_getElem? (i := 228) (by decide +kernel), List.mem_of_getElem? (i := 628) (by decide +kernel), List.mem_of_getElem? (i := 629) (by decide +kernel)⟩
theorem lw_p24 : lw_okq (⟨"IceYard", "tellSledge", "(I)I"⟩, 13) := ⟨⟨by decide +kernel, by decide +kernel⟩, List.mem_of_getElem? (i := 16) (by decide +kernel), List.mem_of_getElem? (i := 648) (by decide +kernel), List.mem_of_getElem? (i := 649) (by decide +kernel)⟩
theorem lw_p25 : lw_okq (⟨"IceYard", "leaveTrace", "(I)V"⟩, 13) := ⟨⟨by decide +kernel, by decide +kernel⟩, List.mem_of_getElem? (i := 16) (by decide +kernel), List.mem_of_getElem? (i := 652) (by decide +kernel), List.mem_of_getElem? (i := 653) (by decide +kernel)⟩
theorem lw_p26 : lw_okq (⟨"IceYard", "tellLog", "(I)I"⟩, 13) := ⟨⟨by decide +kernel, by decide +kernel⟩, List.mem_of_getElem? (i := 16) (by decide +kernel), List.mem_of_getElem? (i := 656) (by decide +kernel), List.mem_of_getElem? (i := 657) (by decide +kernel)⟩
theorem lw_p27 : lw_okq (⟨"IceYard", "tellBlock", "(I)I"⟩, 13) := ⟨⟨by decide +kernel, by decide +kernel⟩, List.mem_of_getElem? (i := 16) (by decide +kernel), List.mem_of_getElem? (i := 660) (by decide +kernel), List.mem_of_getElem? (i := 661) (by decide +kernel)⟩
theorem lw_p28 : lw_okq (⟨"IceYardModel", "refused", "(I)I"⟩, 52) := ⟨⟨by decide +kernel, by decide +kernel⟩, List.mem_of_getElem? (i := 692) (by decide +kernel), List.mem_of_getElem? (i := 867) (by decide +kernel), List.mem_of_getElem? (i := 868) (by decide +kernel)⟩
theorem lw_p29 : lw_okq (⟨"IceYardModel", "failed", "(I)I"⟩, 52) := ⟨⟨by decide +kernel, by decide +kernel⟩, List.mem_of_getElem? (i := 692) (by decide +kernel), List.mem_of_getElem? (i := 872) (by decide +kernel), List.mem_of_getElem? (i := 873) (by decide +kernel)⟩
theorem lw_p30 : lw_okq (⟨"IceYardModel", "readsYard", "(II)Z"⟩, 52) := ⟨⟨by decide +kernel, by decide +kernel⟩, List.mem_of_getElem? (i := 692) (by decide +kernel), List.mem_of_getElem? (i := 879) (by decide +kernel), List.mem_of_getElem? (i := 880) (by decide +kernel)⟩
theorem lw_p31 : lw_okq (⟨"IceYardModel", "codeAt", "(II)I"⟩, 52) := ⟨⟨by decide +kernel, by decide +kernel⟩, List.mem_of_getElem? (i := 692) (by decide +kernel), List.mem_of_getElem? (i := 883) (by decide +kernel), List.mem_of_getElem? (i := 884) (by decide +kernel)⟩
def lw_privs_2 : List (MethodName × Nat) := [(⟨"IceYard$Search", "writeRow", "(II)V"⟩, 9), (⟨"IceYard$Game", "winningPush", "(JII)I"⟩, 3), (⟨"IceYard$Game", "winsWhateverComes", "(JII)Z"⟩, 3), (⟨"IceYard$RowCount", "walk", "(JIIJ)V"⟩, 6), (⟨"IceYard$RowCount", "countRow", "(I)V"⟩, 6), (⟨"IceYard$SandPlan", "bringsHome", "(JIII)Z"⟩, 3), (⟨"IceYard$SandPlan", "freeIce", "(J)J"⟩, 3), (⟨"IceYard$Sheet", "cut", "(I)I"⟩, 3), (⟨"IceYard", "tellSledge", "(I)I"⟩, 13), (⟨"IceYard", "leaveTrace", "(I)V"⟩, 13), (⟨"IceYard", "tellLog", "(I)I"⟩, 13), (⟨"IceYard", "tellBlock", "(I)I"⟩, 13), (⟨"IceYardModel", "refused", "(I)I"⟩, 52), (⟨"IceYardModel", "failed", "(I)I"⟩, 52), (⟨"IceYardModel", "readsYard", "(II)Z"⟩, 52), (⟨"IceYardModel", "codeAt", "(II)I"⟩, 52)]
theorem lw_r2 : ∀ q ∈ lw_privs_2, lw_okq q := List.forall_mem_cons.mpr ⟨lw_p16, List.forall_mem_cons.mpr ⟨lw_p17, List.forall_mem_cons.mpr ⟨lw_p18, List.forall_mem_cons.mpr ⟨lw_p19, List.forall_mem_cons.mpr ⟨lw_p20, List.forall_mem_cons.mpr ⟨lw_p21, List.forall_mem_cons.mpr ⟨lw_p22, List.forall_mem_cons.mpr ⟨lw_p23, List.forall_mem_cons.mpr ⟨lw_p24, List.forall_mem_cons.mpr ⟨lw_p25, List.forall_mem_cons.mpr ⟨lw_p26, List.forall_mem_cons.mpr ⟨lw_p27, List.forall_mem_cons.mpr ⟨lw_p28, List.forall_mem_cons.mpr ⟨lw_p29, List.forall_mem_cons.mpr ⟨lw_p30, List.forall_mem_cons.mpr ⟨lw_p31, fun _ h => absurd h List.not_mem_nil⟩⟩⟩⟩⟩⟩⟩⟩⟩⟩⟩⟩⟩⟩⟩⟩
theorem lw_p32 : lw_okq (⟨"IceYardModel", "figure", "(II)I"⟩, 52) := ⟨⟨by decide +kernel, by decide +kernel⟩, List.mem_of_getElem? (i := 692) (by decide +kernel), List.mem_of_getElem? (i := 887) (by decide +kernel), List.mem_of_getElem? (i := 888) (by decide +kernel)⟩
theorem lw_p33 : lw_okq (⟨"IceYardModel", "readsSign", "(III)Z"⟩, 52) := ⟨⟨by decide +kernel, by decide +kernel⟩, List.mem_of_getElem? (i := 692) (by decide +kernel), List.mem_of_getElem? (i := 892) (by decide +kernel), List.mem_of_getElem? (i := 893) (by decide +kernel)⟩
theorem lw_p34 : lw_okq (⟨"IceYardModel", "cells", "()I"⟩, 52) := ⟨⟨by decide +kernel, by decide +kernel⟩, List.mem_of_getElem? (i := 692) (by decide +kernel), List.mem_of_getElem? (i := 899) (by decide +kernel), List.mem_of_getElem? (i := 900) (by decide +kernel)⟩
theorem lw_p35 : lw_okq (⟨"IceYardModel", "blockIn", "(I)I"⟩, 52) := ⟨⟨by decide +kernel, by decide +kernel⟩, List.mem_of_getElem? (i := 692) (by decide +kernel), List.mem_of_getElem? (i := 907) (by decide +kernel), List.mem_of_getElem? (i := 908) (by decide +kernel)⟩
theorem lw_p36 : lw_okq (⟨"IceYardModel", "whatIs", "(I)I"⟩, 52) := ⟨⟨by decide +kernel, by decide +kernel⟩, List.mem_of_getElem? (i := 692) (by decide +kernel), List.mem_of_getElem? (i := 911) (by decide +kernel), List.mem_of_getElem? (i := 912) (by decide +kernel)⟩
theorem lw_p37 : lw_okq (⟨"IceYardModel", "noBlock", "(I)Z"⟩, 52) := ⟨⟨by decide +kernel, by decide +kernel⟩, List.mem_of_getElem? (i := 692) (by decide +kernel), List.mem_of_getElem? (i := 919) (by decide +kernel), List.mem_of_getElem? (i := 920) (by decide +kernel)⟩
theorem lw_p38 : lw_okq (⟨"IceYardModel", "pushBarred", "(II)I"⟩, 52) := ⟨⟨by decide +kernel, by decide +kernel⟩, List.mem_of_getElem? (i := 692) (by decide +kernel), List.mem_of_getElem? (i := 927) (by decide +kernel), List.mem_of_getElem? (i := 928) (by decide +kernel)⟩
theorem lw_p39 : lw_okq (⟨"IceYardModel", "hold", "(I)V"⟩, 52) := ⟨⟨by decide +kernel, by decide +kernel⟩, List.mem_of_getElem? (i := 692) (by decide +kernel), List.mem_of_getElem? (i := 931) (by decide +kernel), List.mem_of_getElem? (i := 932) (by decide +kernel)⟩
theorem lw_p40 : lw_okq (⟨"IceYardModel", "goes", "(II)Z"⟩, 52) := ⟨⟨by decide +kernel, by decide +kernel⟩, List.mem_of_getElem? (i := 692) (by decide +kernel), List.mem_of_getElem? (i := 935) (by decide +kernel), List.mem_of_getElem? (i := 936) (by decide +kernel)⟩
theorem lw_p41 : lw_okq (⟨"IceYardModel", "slide", "(II)I"⟩, 52) := ⟨⟨by decide +kernel, by decide +kernel⟩, List.mem_of_getElem? (i := 692) (by decide +kernel), List.mem_of_getElem? (i := 939) (by decide +kernel), List.mem_of_getElem? (i := 940) (by decide +kernel)⟩
theorem lw_p42 : lw_okq (⟨"IceYardModel", "beside", "(II)I"⟩, 52) := ⟨⟨by decide +kernel, by decide +kernel⟩, List.mem_of_getElem? (i := 692) (by decide +kernel), List.mem_of_getElem? (i := 943) (by decide +kernel), List.mem_of_getElem? (i := 944) (by decide +kernel)⟩
theorem lw_p43 : lw_okq (⟨"IceYardModel", "give", "(I)V"⟩, 52) := ⟨⟨by decide +kernel, by decide +kernel⟩, List.mem_of_getElem? (i := 692) (by decide +kernel), List.mem_of_getElem? (i := 947) (by decide +kernel), List.mem_of_getElem? (i := 948) (by decide +kernel)⟩
theorem lw_p44 : lw_okq (⟨"IceYardModel", "yardNow", "()J"⟩, 52) := ⟨⟨by decide +kernel, by decide +kernel⟩, List.mem_of_getElem? (i := 692) (by decide +kernel), List.mem_of_getElem? (i := 979) (by decide +kernel), List.mem_of_getElem? (i := 980) (by decide +kernel)⟩
theorem lw_p45 : lw_okq (⟨"IceYardModel", "codeOf", "(I)I"⟩, 52) := ⟨⟨by decide +kernel, by decide +kernel⟩, List.mem_of_getElem? (i := 692) (by decide +kernel), List.mem_of_getElem? (i := 984) (by decide +kernel), List.mem_of_getElem? (i := 985) (by decide +kernel)⟩
theorem lw_p46 : lw_okq (⟨"IceYardModel", "addYard", "(JII)Z"⟩, 52) := ⟨⟨by decide +kernel, by decide +kernel⟩, List.mem_of_getElem? (i := 692) (by decide +kernel), List.mem_of_getElem? (i := 989) (by decide +kernel), List.mem_of_getElem? (i := 990) (by decide +kernel)⟩
theorem lw_p47 : lw_okq (⟨"IceYardModel", "placeFor", "(J)I"⟩, 52) := ⟨⟨by decide +kernel, by decide +kernel⟩, List.mem_of_getElem? (i := 692) (by decide +kernel), List.mem_of_getElem? (i := 993) (by decide +kernel), List.mem_of_getElem? (i := 994) (by decide +kernel)⟩
def lw_privs_3 : List (MethodName × Nat) := [(⟨"IceYardModel", "figure", "(II)I"⟩, 52), (⟨"IceYardModel", "readsSign", "(III)Z"⟩, 52), (⟨"IceYardModel", "cells", "()I"⟩, 52), (⟨"IceYardModel", "blockIn", "(I)I"⟩, 52), (⟨"IceYardModel", "whatIs", "(I)I"⟩, 52), (⟨"IceYardModel", "noBlock", "(I)Z"⟩, 52), (⟨"IceYardModel", "pushBarred", "(II)I"⟩, 52), (⟨"IceYardModel", "hold", "(I)V"⟩, 52), (⟨"IceYardModel", "goes", "(II)Z"⟩, 52), (⟨"IceYardModel", "slide", "(II)I"⟩, 52), (⟨"IceYardModel", "beside", "(II)I"⟩, 52), (⟨"IceYardModel", "give", "(I)V"⟩, 52), (⟨"IceYardModel", "yardNow", "()J"⟩, 52), (⟨"IceYardModel", "codeOf", "(I)I"⟩, 52), (⟨"IceYardModel", "addYard", "(JII)Z"⟩, 52), (⟨"IceYardModel", "placeFor", "(J)I"⟩, 52)]
theorem lw_r3 : ∀ q ∈ lw_privs_3, lw_okq q := List.forall_mem_cons.mpr ⟨lw_p32, List.forall_mem_cons.mpr ⟨lw_p33, List.forall_mem_cons.mpr ⟨lw_p34, List.forall_mem_cons.mpr ⟨lw_p35, List.forall_mem_cons.mpr ⟨lw_p36, List.forall_mem_cons.mpr ⟨lw_p37, List.forall_mem_cons.mpr ⟨lw_p38, List.forall_mem_cons.mpr ⟨lw_p39, List.forall_mem_cons.mpr ⟨lw_p40, List.forall_mem_cons.mpr ⟨lw_p41, List.forall_mem_cons.mpr ⟨lw_p42, List.forall_mem_cons.mpr ⟨lw_p43, List.forall_mem_cons.mpr ⟨lw_p44, List.forall_mem_cons.mpr ⟨lw_p45, List.forall_mem_cons.mpr ⟨lw_p46, List.forall_mem_cons.mpr ⟨lw_p47, fun _ h => absurd h List.not_mem_nil⟩⟩⟩⟩⟩⟩⟩⟩⟩⟩⟩⟩⟩⟩⟩⟩
theorem lw_p48 : lw_okq (⟨"IceYardModel", "spread", "(II)I"⟩, 52) := ⟨⟨by decide +kernel, by decide +kernel⟩, List.mem_of_getElem? (i := 692) (by decide +kernel), List.mem_of_getElem? (i := 998) (by decide +kernel), List.mem_of_getElem? (i := 999) (by decide +kernel)⟩
theorem lw_p49 : lw_okq (⟨"IceYardModel", "layYard", "(J)V"⟩, 52) := ⟨⟨by decide +kernel, by decide +kernel⟩, List.mem_of_getElem? (i := 692) (by decide +kernel), List.mem_of_getElem? (i := 1002) (by decide +kernel), List.mem_of_getElem? (i := 1003) (by decide +kernel)⟩
theorem lw_p50 : lw_okq (⟨"IceYardModel", "wonIn", "(I)I"⟩, 52) := ⟨⟨by decide +kernel, by decide +kernel⟩, List.mem_of_getElem? (i := 692) (by decide +kernel), List.mem_of_getElem? (i := 1010) (by decide +kernel), List.mem_of_getElem? (i := 1011) (by decide +kernel)⟩
theorem lw_p51 : lw_okq (⟨"IceYardModel", "hasWon", "(II)Z"⟩, 52) := ⟨⟨by decide +kernel, by decide +kernel⟩, List.mem_of_getElem? (i := 692) (by decide +kernel), List.mem_of_getElem? (i := 1014) (by decide +kernel), List.mem_of_getElem? (i := 1015) (by decide +kernel)⟩
theorem lw_p52 : lw_okq (⟨"IceYardModel", "enter", "(I)V"⟩, 52) := ⟨⟨by decide +kernel, by decide +kernel⟩, List.mem_of_getElem? (i := 692) (by decide +kernel), List.mem_of_getElem? (i := 1018) (by decide +kernel), List.mem_of_getElem? (i := 1019) (by decide +kernel)⟩
theorem lw_p53 : lw_okq (⟨"IceYardModel", "isOwn", "(I)Z"⟩, 52) := ⟨⟨by decide +kernel, by decide +kernel⟩, List.mem_of_getElem? (i := 692) (by decide +kernel), List.mem_of_getElem? (i := 1022) (by decide +kernel), List.mem_of_getElem? (i := 1023) (by decide +kernel)⟩
theorem lw_p54 : lw_okq (⟨"IceYardModel", "tryNext", "(I)Z"⟩, 52) := ⟨⟨by decide +kernel, by decide +kernel⟩, List.mem_of_getElem? (i := 692) (by decide +kernel), List.mem_of_getElem? (i := 1026) (by decide +kernel), List.mem_of_getElem? (i := 1027) (by decide +kernel)⟩
theorem lw_p55 : lw_okq (⟨"IceYardModel", "learn", "(IZ)V"⟩, 52) := ⟨⟨by decide +kernel, by decide +kernel⟩, List.mem_of_getElem? (i := 692) (by decide +kernel), List.mem_of_getElem? (i := 1030) (by decide +kernel), List.mem_of_getElem? (i := 1031) (by decide +kernel)⟩
theorem lw_p56 : lw_okq (⟨"IceYardModel", "descend", "(I)V"⟩, 52) := ⟨⟨by decide +kernel, by decide +kernel⟩, List.mem_of_getElem? (i := 692) (by decide +kernel), List.mem_of_getElem? (i := 1034) (by decide +kernel), List.mem_of_getElem? (i := 1035) (by decide +kernel)⟩
theorem lw_p57 : lw_okq (⟨"IceYardModel", "goRow", "(II)Z"⟩, 52) := ⟨⟨by decide +kernel, by decide +kernel⟩, List.mem_of_getElem? (i := 692) (by decide +kernel), List.mem_of_getElem? (i := 1047) (by decide +kernel), List.mem_of_getElem? (i := 1048) (by decide +kernel)⟩
theorem lw_p58 : lw_okq (⟨"IceYardModel", "comesHome", "(III)Z"⟩, 52) := ⟨⟨by decide +kernel, by decide +kernel⟩, List.mem_of_getElem? (i := 692) (by decide +kernel), List.mem_of_getElem? (i := 1055) (by decide +kernel), List.mem_of_getElem? (i := 1056) (by decide +kernel)⟩
theorem lw_p59 : lw_okq (⟨"IceYardModel", "maySand", "(I)Z"⟩, 52) := ⟨⟨by decide +kernel, by decide +kernel⟩, List.mem_of_getElem? (i := 692) (by decide +kernel), List.mem_of_getElem? (i := 1059) (by decide +kernel), List.mem_of_getElem? (i := 1060) (by decide +kernel)⟩
theorem lw_p60 : lw_okq (⟨"IceYardModel", "noCell", "(II)I"⟩, 52) := ⟨⟨by decide +kernel, by decide +kernel⟩, List.mem_of_getElem? (i := 692) (by decide +kernel), List.mem_of_getElem? (i := 1080) (by decide +kernel), List.mem_of_getElem? (i := 1081) (by decide +kernel)⟩
theorem lw_p61 : lw_okq (⟨"IceYardModel", "failedLong", "(I)J"⟩, 52) := ⟨⟨by decide +kernel, by decide +kernel⟩, List.mem_of_getElem? (i := 692) (by decide +kernel), List.mem_of_getElem? (i := 1088) (by decide +kernel), List.mem_of_getElem? (i := 1089) (by decide +kernel)⟩
theorem lw_p62 : lw_okq (⟨"IceYardModel", "traced", "(I)V"⟩, 52) := ⟨⟨by decide +kernel, by decide +kernel⟩, List.mem_of_getElem? (i := 692) (by decide +kernel), List.mem_of_getElem? (i := 1100) (by decide +kernel), List.mem_of_getElem? (i := 1101) (by decide +kernel)⟩
theorem lw_p63 : lw_okq (⟨"IceYardModel", "cracksOpen", "()I"⟩, 52) := ⟨⟨by decide +kernel, by decide +kernel⟩, List.mem_of_getElem? (i := 692) (by decide +kernel), List.mem_of_getElem? (i := 1124) (by decide +kernel), List.mem_of_getElem? (i := 1125) (by decide +kernel)⟩
def lw_privs_4 : List (MethodName × Nat) := [(⟨"IceYardModel", "spread", "(II)I"⟩, 52), (⟨"IceYardModel", "layYard", "(J)V"⟩, 52), (⟨"IceYardModel", "wonIn", "(I)I"⟩, 52), (⟨"IceYardModel", "hasWon", "(II)Z"⟩, 52), (⟨"IceYardModel", "enter", "(I)V"⟩, 52), (⟨"IceYardModel", "isOwn", "(I)Z"⟩, 52), (⟨"IceYardModel", "tryNext", "(I)Z"⟩, 52), (⟨"IceYardModel", "learn", "(IZ)V"⟩, 52), (⟨"IceYardModel", "descend", "(I)V"⟩, 52), (⟨"IceYardModel", "goRow", "(II)Z"⟩, 52), (⟨"IceYardModel", "comesHome", "(III)Z"⟩, 52), (⟨"IceYardModel", "maySand", "(I)Z"⟩, 52), (⟨"IceYardModel", "noCell", "(II)I"⟩, 52), (⟨"IceYardModel", "failedLong", "(I)J"⟩, 52), (⟨"IceYardModel", "traced", "(I)V"⟩, 52), (⟨"IceYardModel", "cracksOpen", "()I"⟩, 52)]
theorem lw_r4 : ∀ q ∈ lw_privs_4, lw_okq q := List.forall_mem_cons.mpr ⟨lw_p48, List.forall_mem_cons.mpr ⟨lw_p49, List.forall_mem_cons.mpr ⟨lw_p50, List.forall_mem_cons.mpr ⟨lw_p51, List.forall_mem_cons.mpr ⟨lw_p52, List.forall_mem_cons.mpr ⟨lw_p53, List.forall_mem_cons.mpr ⟨lw_p54, List.forall_mem_cons.mpr ⟨lw_p55, List.forall_mem_cons.mpr ⟨lw_p56, List.forall_mem_cons.mpr ⟨lw_p57, List.forall_mem_cons.mpr ⟨lw_p58, List.forall_mem_cons.mpr ⟨lw_p59, List.forall_mem_cons.mpr ⟨lw_p60, List.forall_mem_cons.mpr ⟨lw_p61, List.forall_mem_cons.mpr ⟨lw_p62, List.forall_mem_cons.mpr ⟨lw_p63, fun _ h => absurd h List.not_mem_nil⟩⟩⟩⟩⟩⟩⟩⟩⟩⟩⟩⟩⟩⟩⟩⟩
def lw_privs : List (MethodName × Nat) := lw_privs_1 ++ (lw_privs_2 ++ (lw_privs_3 ++ (lw_privs_4)))
def lw_tbl : List Cond := k2_sels lw_privs ++ tables_1
theorem lw_privs_ok : ∀ q ∈ lw_privs, lw_okq q := by
  show ∀ q ∈ lw_privs_1 ++ (lw_privs_2 ++ (lw_privs_3 ++ (lw_privs_4))), lw_okq q
  exact List.forall_mem_append.mpr ⟨lw_r1, List.forall_mem_append.mpr ⟨lw_r2, List.forall_mem_append.mpr ⟨lw_r3, lw_r4⟩⟩⟩
/-! ===== BEGIN words of one list among another's, by their places ===== -/
/-! ===== END ===== -/

/-! ===== BEGIN printed: names, fields, word lists, decode rows ===== -/
def RX0 : String := "IceYard$Game"
def TX0 : u_T := fun k => match k with
  | 0 => ("IceYard$Game", "ground", "LIceYard$Ground;", true)
  | 1 => ("IceYard$Game", "slider", "LIceYard$Slider;", true)
  | _ => ("IceYard$Game", "winning", "I", false)
def tyX0 : Nat → FieldType := fun k => match k with
  | 0 => .object "IceYard$Ground"
  | 1 => .object "IceYard$Slider"
  | _ => .int
abbrev wsX00 : List Cond := u_ws RX0 TX0 3
theorem nmX0 : ∀ a, a < 3 → ∀ b, b < 3 → a ≠ b → (TX0 a).2.1 ≠ (TX0 b).2.1 := by decide +kernel
theorem tyX0_ok : ∀ k, k < 3 → parseFieldDescriptor (TX0 k).2.2.1 = some (tyX0 k) := by decide +kernel
abbrev cX0_init : ByteArray := prog_2_method_1_code
def yX0_init : MethodName := ⟨RX0, "<init>", "(LIceYard$Ground;LIceYard$Slider;)V"⟩
abbrev cX0_leastTurns : ByteArray := prog_2_method_2_code
def yX0_leastTurns : MethodName := ⟨RX0, "leastTurns", "(JI)I"⟩
abbrev cX0_winningPush : ByteArray := prog_2_method_3_code
def yX0_winningPush : MethodName := ⟨RX0, "winningPush", "(JII)I"⟩
abbrev cX0_winsWhateverComes : ByteArray := prog_2_method_4_code
def yX0_winsWhateverComes : MethodName := ⟨RX0, "winsWhateverComes", "(JII)Z"⟩
def RX1 : String := "IceYard$Ground"
def TX1 : u_T := fun k => match k with
  | 0 => ("IceYard$Ground", "kinds", "[I", true)
  | 1 => ("IceYard$Ground", "starts", "[I", true)
  | 2 => ("IceYard$Ground", "cracks", "[I", true)
  | 3 => ("IceYard$Ground", "ways", "[I", true)
  | 4 => ("IceYard$Ground", "high", "I", false)
  | 5 => ("IceYard$Ground", "wide", "I", false)
  | 6 => ("IceYard$Ground", "blocks", "I", false)
  | 7 => ("IceYard$Ground", "crackCount", "I", false)
  | 8 => ("IceYard$Ground", "walls", "J", false)
  | 9 => ("IceYard$Ground", "sand", "J", false)
  | 10 => ("IceYard$Ground", "gate0", "J", false)
  | 11 => ("IceYard$Ground", "gate1", "J", false)
  | _ => ("IceYard$Ground", "ice", "J", false)
def tyX1 : Nat → FieldType := fun k => match k with
  | 0 => .array .int
  | 1 => .array .int
  | 2 => .array .int
  | 3 => .array .int
  | 4 => .int
  | 5 => .int
  | 6 => .int
  | 7 => .int
  | 8 => .long
  | 9 => .long
  | 10 => .long
  | 11 => .long
  | _ => .long
abbrev wsX10 : List Cond := u_ws RX1 TX1 13
theorem nmX1 : ∀ a, a < 13 → ∀ b, b < 13 → a ≠ b → (TX1 a).2.1 ≠ (TX1 b).2.1 := by decide +kernel
theorem tyX1_ok : ∀ k, k < 13 → parseFieldDescriptor (TX1 k).2.2.1 = some (tyX1 k) := by decide +kernel
abbrev cX1_init : ByteArray := prog_3_method_1_code
def yX1_init : MethodName := ⟨RX1, "<init>", "()V"⟩
abbrev cX1_cells : ByteArray := prog_3_method_2_code
def yX1_cells : MethodName := ⟨RX1, "cells", "()I"⟩
abbrev cX1_hasBlock : ByteArray := prog_3_method_3_code
def yX1_hasBlock : MethodName := ⟨RX1, "hasBlock", "(I)Z"⟩
abbrev cX1_kindOf : ByteArray := prog_3_method_4_code
def yX1_kindOf : MethodName := ⟨RX1, "kindOf", "(I)I"⟩
abbrev cX1_startOf : ByteArray := prog_3_method_5_code
def yX1_startOf : MethodName := ⟨RX1, "startOf", "(I)I"⟩
abbrev cX1_wayFrom : ByteArray := prog_3_method_6_code
def yX1_wayFrom : MethodName := ⟨RX1, "wayFrom", "(II)I"⟩
abbrev cX1_lay : ByteArray := prog_3_method_7_code
def yX1_lay : MethodName := ⟨RX1, "lay", "(LIceYard$Sheet;II)V"⟩
abbrev cX1_layCell : ByteArray := prog_3_method_8_code
def yX1_layCell : MethodName := ⟨RX1, "layCell", "(II)V"⟩
abbrev cX1_layCrack : ByteArray := prog_3_method_9_code
def yX1_layCrack : MethodName := ⟨RX1, "layCrack", "(I)V"⟩
abbrev cX1_layBlock : ByteArray := prog_3_method_10_code
def yX1_layBlock : MethodName := ⟨RX1, "layBlock", "(II)V"⟩
abbrev cX1_layWays : ByteArray := prog_3_method_11_code
def yX1_layWays : MethodName := ⟨RX1, "layWays", "()V"⟩
abbrev cX1_layWay : ByteArray := prog_3_method_12_code
def yX1_layWay : MethodName := ⟨RX1, "layWay", "(IIZI)V"⟩
abbrev cX1_firstYard : ByteArray := prog_3_method_13_code
def yX1_firstYard : MethodName := ⟨RX1, "firstYard", "()J"⟩
abbrev cX1_openCracks : ByteArray := prog_3_method_14_code
def yX1_openCracks : MethodName := ⟨RX1, "openCracks", "(J)J"⟩
abbrev cX1_fillCrack : ByteArray := prog_3_method_15_code
def yX1_fillCrack : MethodName := ⟨RX1, "fillCrack", "(JI)J"⟩
abbrev cX1_signAt : ByteArray := prog_3_method_16_code
def yX1_signAt : MethodName := ⟨RX1, "signAt", "(IJ)I"⟩
def RX2 : String := "IceYard$RowCount"
def TX2 : u_T := fun k => match k with
  | 0 => ("IceYard$RowCount", "ground", "LIceYard$Ground;", true)
  | 1 => ("IceYard$RowCount", "slider", "LIceYard$Slider;", true)
  | 2 => ("IceYard$RowCount", "row", "[I", true)
  | 3 => ("IceYard$RowCount", "firstRow", "[I", true)
  | 4 => ("IceYard$RowCount", "told", "J", false)
  | _ => ("IceYard$RowCount", "found", "I", false)
def tyX2 : Nat → FieldType := fun k => match k with
  | 0 => .object "IceYard$Ground"
  | 1 => .object "IceYard$Slider"
  | 2 => .array .int
  | 3 => .array .int
  | 4 => .long
  | _ => .int
abbrev wsX20 : List Cond := u_ws RX2 TX2 6
theorem nmX2 : ∀ a, a < 6 → ∀ b, b < 6 → a ≠ b → (TX2 a).2.1 ≠ (TX2 b).2.1 := by decide +kernel
theorem tyX2_ok : ∀ k, k < 6 → parseFieldDescriptor (TX2 k).2.2.1 = some (tyX2 k) := by decide +kernel
abbrev cX2_init : ByteArray := prog_4_method_1_code
def yX2_init : MethodName := ⟨RX2, "<init>", "(LIceYard$Ground;LIceYard$Slider;)V"⟩
abbrev cX2_count : ByteArray := prog_4_method_2_code
def yX2_count : MethodName := ⟨RX2, "count", "(JIJ)I"⟩
abbrev cX2_pushAt : ByteArray := prog_4_method_3_code
def yX2_pushAt : MethodName := ⟨RX2, "pushAt", "(I)I"⟩
abbrev cX2_walk : ByteArray := prog_4_method_4_code
def yX2_walk : MethodName := ⟨RX2, "walk", "(JIIJ)V"⟩
abbrev cX2_countRow : ByteArray := prog_4_method_5_code
def yX2_countRow : MethodName := ⟨RX2, "countRow", "(I)V"⟩
def RX3 : String := "IceYard$SandPlan"
def TX3 : u_T := fun k => match k with
  | 0 => ("IceYard$SandPlan", "ground", "LIceYard$Ground;", true)
  | 1 => ("IceYard$SandPlan", "slider", "LIceYard$Slider;", true)
  | _ => ("IceYard$SandPlan", "cell", "I", false)
def tyX3 : Nat → FieldType := fun k => match k with
  | 0 => .object "IceYard$Ground"
  | 1 => .object "IceYard$Slider"
  | _ => .int
abbrev wsX30 : List Cond := u_ws RX3 TX3 3
theorem nmX3 : ∀ a, a < 3 → ∀ b, b < 3 → a ≠ b → (TX3 a).2.1 ≠ (TX3 b).2.1 := by decide +kernel
theorem tyX3_ok : ∀ k, k < 3 → parseFieldDescriptor (TX3 k).2.2.1 = some (tyX3 k) := by decide +kernel
abbrev cX3_init : ByteArray := prog_5_method_1_code
def yX3_init : MethodName := ⟨RX3, "<init>", "(LIceYard$Ground;LIceYard$Slider;)V"⟩
abbrev cX3_fewestCells : ByteArray := prog_5_method_2_code
def yX3_fewestCells : MethodName := ⟨RX3, "fewestCells", "(JIII)I"⟩
abbrev cX3_freeIce : ByteArray := prog_5_method_3_code
def yX3_freeIce : MethodName := ⟨RX3, "freeIce", "(J)J"⟩
abbrev cX3_bringsHome : ByteArray := prog_5_method_4_code
def yX3_bringsHome : MethodName := ⟨RX3, "bringsHome", "(JIII)Z"⟩
def RX4 : String := "IceYard$Search"
def TX4 : u_T := fun k => match k with
  | 0 => ("IceYard$Search", "ground", "LIceYard$Ground;", true)
  | 1 => ("IceYard$Search", "slider", "LIceYard$Slider;", true)
  | 2 => ("IceYard$Search", "yards", "[J", true)
  | 3 => ("IceYard$Search", "origins", "[I", true)
  | 4 => ("IceYard$Search", "numbers", "[I", true)
  | 5 => ("IceYard$Search", "row", "[I", true)
  | 6 => ("IceYard$Search", "slots", "[I", true)
  | 7 => ("IceYard$Search", "count", "I", false)
  | _ => ("IceYard$Search", "length", "I", false)
def tyX4 : Nat → FieldType := fun k => match k with
  | 0 => .object "IceYard$Ground"
  | 1 => .object "IceYard$Slider"
  | 2 => .array .long
  | 3 => .array .int
  | 4 => .array .int
  | 5 => .array .int
  | 6 => .array .int
  | 7 => .int
  | _ => .int
abbrev wsX40 : List Cond := u_ws RX4 TX4 9
theorem nmX4 : ∀ a, a < 9 → ∀ b, b < 9 → a ≠ b → (TX4 a).2.1 ≠ (TX4 b).2.1 := by decide +kernel
theorem tyX4_ok : ∀ k, k < 9 → parseFieldDescriptor (TX4 k).2.2.1 = some (tyX4 k) := by decide +kernel
abbrev cX4_init : ByteArray := prog_6_method_1_code
def yX4_init : MethodName := ⟨RX4, "<init>", "(LIceYard$Ground;LIceYard$Slider;)V"⟩
abbrev cX4_fewestPushes : ByteArray := prog_6_method_2_code
def yX4_fewestPushes : MethodName := ⟨RX4, "fewestPushes", "(JI)I"⟩
abbrev cX4_pushAt : ByteArray := prog_6_method_3_code
def yX4_pushAt : MethodName := ⟨RX4, "pushAt", "(I)I"⟩
abbrev cX4_goOnFrom : ByteArray := prog_6_method_4_code
def yX4_goOnFrom : MethodName := ⟨RX4, "goOnFrom", "(II)I"⟩
abbrev cX4_note : ByteArray := prog_6_method_5_code
def yX4_note : MethodName := ⟨RX4, "note", "(JII)Z"⟩
abbrev cX4_slotOf : ByteArray := prog_6_method_6_code
def yX4_slotOf : MethodName := ⟨RX4, "slotOf", "(J)I"⟩
abbrev cX4_writeRow : ByteArray := prog_6_method_7_code
def yX4_writeRow : MethodName := ⟨RX4, "writeRow", "(II)V"⟩
def RX5 : String := "IceYard$Sheet"
def TX5 : u_T := fun k => match k with
  | 0 => ("IceYard$Sheet", "cells", "[I", true)
  | 1 => ("IceYard$Sheet", "lane", "I", false)
  | _ => ("IceYard$Sheet", "count", "I", false)
def tyX5 : Nat → FieldType := fun k => match k with
  | 0 => .array .int
  | 1 => .int
  | _ => .int
abbrev wsX50 : List Cond := u_ws RX5 TX5 3
theorem nmX5 : ∀ a, a < 3 → ∀ b, b < 3 → a ≠ b → (TX5 a).2.1 ≠ (TX5 b).2.1 := by decide +kernel
theorem tyX5_ok : ∀ k, k < 3 → parseFieldDescriptor (TX5 k).2.2.1 = some (tyX5 k) := by decide +kernel
abbrev cX5_init : ByteArray := prog_7_method_1_code
def yX5_init : MethodName := ⟨RX5, "<init>", "()V"⟩
abbrev cX5_hasNothing : ByteArray := prog_7_method_2_code
def yX5_hasNothing : MethodName := ⟨RX5, "hasNothing", "()Z"⟩
abbrev cX5_empty : ByteArray := prog_7_method_3_code
def yX5_empty : MethodName := ⟨RX5, "empty", "()V"⟩
abbrev cX5_renew : ByteArray := prog_7_method_4_code
def yX5_renew : MethodName := ⟨RX5, "renew", "(II)V"⟩
abbrev cX5_faultTakenAs : ByteArray := prog_7_method_5_code
def yX5_faultTakenAs : MethodName := ⟨RX5, "faultTakenAs", "(I)I"⟩
abbrev cX5_hasCell : ByteArray := prog_7_method_6_code
def yX5_hasCell : MethodName := ⟨RX5, "hasCell", "(I)Z"⟩
abbrev cX5_hasCells : ByteArray := prog_7_method_7_code
def yX5_hasCells : MethodName := ⟨RX5, "hasCells", "(II)Z"⟩
abbrev cX5_read : ByteArray := prog_7_method_8_code
def yX5_read : MethodName := ⟨RX5, "read", "(I)I"⟩
abbrev cX5_write : ByteArray := prog_7_method_9_code
def yX5_write : MethodName := ⟨RX5, "write", "(II)V"⟩
abbrev cX5_cut : ByteArray := prog_7_method_10_code
def yX5_cut : MethodName := ⟨RX5, "cut", "(I)I"⟩
def RX6 : String := "IceYard$Slider"
def TX6 : u_T := fun k => match k with
  | 0 => ("IceYard$Slider", "ground", "LIceYard$Ground;", true)
  | 1 => ("IceYard$Slider", "places", "[I", true)
  | 2 => ("IceYard$Slider", "loaded", "J", false)
  | 3 => ("IceYard$Slider", "occupied", "J", false)
  | 4 => ("IceYard$Slider", "openCracks", "J", false)
  | 5 => ("IceYard$Slider", "trialSand", "J", false)
  | 6 => ("IceYard$Slider", "after", "J", false)
  | 7 => ("IceYard$Slider", "tracks", "J", false)
  | 8 => ("IceYard$Slider", "homeBlock", "I", false)
  | _ => ("IceYard$Slider", "homeGate", "I", false)
def tyX6 : Nat → FieldType := fun k => match k with
  | 0 => .object "IceYard$Ground"
  | 1 => .array .int
  | 2 => .long
  | 3 => .long
  | 4 => .long
  | 5 => .long
  | 6 => .long
  | 7 => .long
  | 8 => .int
  | _ => .int
abbrev wsX60 : List Cond := u_ws RX6 TX6 10
theorem nmX6 : ∀ a, a < 10 → ∀ b, b < 10 → a ≠ b → (TX6 a).2.1 ≠ (TX6 b).2.1 := by decide +kernel
theorem tyX6_ok : ∀ k, k < 10 → parseFieldDescriptor (TX6 k).2.2.1 = some (tyX6 k) := by decide +kernel
abbrev cX6_init : ByteArray := prog_8_method_1_code
def yX6_init : MethodName := ⟨RX6, "<init>", "(LIceYard$Ground;)V"⟩
abbrev cX6_forget : ByteArray := prog_8_method_2_code
def yX6_forget : MethodName := ⟨RX6, "forget", "()V"⟩
abbrev cX6_goes : ByteArray := prog_8_method_3_code
def yX6_goes : MethodName := ⟨RX6, "goes", "(JII)Z"⟩
abbrev cX6_load : ByteArray := prog_8_method_4_code
def yX6_load : MethodName := ⟨RX6, "load", "(J)V"⟩
abbrev cX6_slideOne : ByteArray := prog_8_method_5_code
def yX6_slideOne : MethodName := ⟨RX6, "slideOne", "(II)I"⟩
abbrev cX6_leave : ByteArray := prog_8_method_6_code
def yX6_leave : MethodName := ⟨RX6, "leave", "(II)V"⟩
abbrev cX6_blockIn : ByteArray := prog_8_method_7_code
def yX6_blockIn : MethodName := ⟨RX6, "blockIn", "(I)I"⟩
def RX7 : String := "IceYard$Text"
def TX7 : u_T := fun k => match k with
  | _ => ("", "", "", false)
def tyX7 : Nat → FieldType := fun k => match k with
  | _ => .int
abbrev wsX70 : List Cond := u_ws RX7 TX7 0
theorem nmX7 : ∀ a, a < 0 → ∀ b, b < 0 → a ≠ b → (TX7 a).2.1 ≠ (TX7 b).2.1 := by decide +kernel
theorem tyX7_ok : ∀ k, k < 0 → parseFieldDescriptor (TX7 k).2.2.1 = some (tyX7 k) := by decide +kernel
abbrev cX7_firstFault : ByteArray := prog_9_method_2_code
def yX7_firstFault : MethodName := ⟨RX7, "firstFault", "(LIceYard$Sheet;II)I"⟩
abbrev cX7_fits : ByteArray := prog_9_method_3_code
def yX7_fits : MethodName := ⟨RX7, "fits", "(IIII)Z"⟩
abbrev cX7_opensRow : ByteArray := prog_9_method_4_code
def yX7_opensRow : MethodName := ⟨RX7, "opensRow", "(II)Z"⟩
abbrev cX7_isSign : ByteArray := prog_9_method_5_code
def yX7_isSign : MethodName := ⟨RX7, "isSign", "(I)Z"⟩
abbrev cX7_kindOfSign : ByteArray := prog_9_method_6_code
def yX7_kindOfSign : MethodName := ⟨RX7, "kindOfSign", "(I)I"⟩
def RX8 : String := "IceYard"
def TX8 : u_T := fun k => match k with
  | 0 => ("IceYard", "ground", "LIceYard$Ground;", true)
  | 1 => ("IceYard", "slider", "LIceYard$Slider;", true)
  | 2 => ("IceYard", "search", "LIceYard$Search;", true)
  | 3 => ("IceYard", "game", "LIceYard$Game;", true)
  | 4 => ("IceYard", "rowCount", "LIceYard$RowCount;", true)
  | 5 => ("IceYard", "sandPlan", "LIceYard$SandPlan;", true)
  | 6 => ("IceYard", "sheets", "[LIceYard$Sheet;", true)
  | 7 => ("IceYard", "yardsBefore", "[J", true)
  | 8 => ("IceYard", "images", "[J", true)
  | 9 => ("IceYard", "now", "J", false)
  | 10 => ("IceYard", "pushes", "I", false)
  | 11 => ("IceYard", "trace", "I", false)
  | _ => ("IceYard", "fault", "I", false)
def tyX8 : Nat → FieldType := fun k => match k with
  | 0 => .object "IceYard$Ground"
  | 1 => .object "IceYard$Slider"
  | 2 => .object "IceYard$Search"
  | 3 => .object "IceYard$Game"
  | 4 => .object "IceYard$RowCount"
  | 5 => .object "IceYard$SandPlan"
  | 6 => .array (.object "IceYard$Sheet")
  | 7 => .array .long
  | 8 => .array .long
  | 9 => .long
  | 10 => .int
  | 11 => .int
  | _ => .int
abbrev wsX80 : List Cond := u_ws RX8 TX8 13
theorem nmX8 : ∀ a, a < 13 → ∀ b, b < 13 → a ≠ b → (TX8 a).2.1 ≠ (TX8 b).2.1 := by decide +kernel
theorem tyX8_ok : ∀ k, k < 13 → parseFieldDescriptor (TX8 k).2.2.1 = some (tyX8 k) := by decide +kernel
abbrev cX8_init : ByteArray := prog_1_method_1_code
def yX8_init : MethodName := ⟨RX8, "<init>", "()V"⟩
abbrev cX8_yard : ByteArray := prog_1_method_2_code
def yX8_yard : MethodName := ⟨RX8, "yard", "(IIII)I"⟩
abbrev cX8_takeYard : ByteArray := prog_1_method_3_code
def yX8_takeYard : MethodName := ⟨RX8, "takeYard", "(LIceYard$Sheet;II)V"⟩
abbrev cX8_at : ByteArray := prog_1_method_4_code
def yX8_at : MethodName := ⟨RX8, "at", "(I)I"⟩
abbrev cX8_ofBlock : ByteArray := prog_1_method_5_code
def yX8_ofBlock : MethodName := ⟨RX8, "ofBlock", "(II)I"⟩
abbrev cX8_push : ByteArray := prog_1_method_6_code
def yX8_push : MethodName := ⟨RX8, "push", "(II)I"⟩
abbrev cX8_would : ByteArray := prog_1_method_7_code
def yX8_would : MethodName := ⟨RX8, "would", "(II)I"⟩
abbrev cX8_tracks : ByteArray := prog_1_method_8_code
def yX8_tracks : MethodName := ⟨RX8, "tracks", "(II)J"⟩
abbrev cX8_refusalOfPush : ByteArray := prog_1_method_9_code
def yX8_refusalOfPush : MethodName := ⟨RX8, "refusalOfPush", "(II)I"⟩
abbrev cX8_undo : ByteArray := prog_1_method_10_code
def yX8_undo : MethodName := ⟨RX8, "undo", "(I)I"⟩
abbrev cX8_keep : ByteArray := prog_1_method_11_code
def yX8_keep : MethodName := ⟨RX8, "keep", "(I)I"⟩
abbrev cX8_back : ByteArray := prog_1_method_12_code
def yX8_back : MethodName := ⟨RX8, "back", "(I)I"⟩
abbrev cX8_fewest : ByteArray := prog_1_method_13_code
def yX8_fewest : MethodName := ⟨RX8, "fewest", "(II)I"⟩
abbrev cX8_won : ByteArray := prog_1_method_14_code
def yX8_won : MethodName := ⟨RX8, "won", "(I)I"⟩
abbrev cX8_first : ByteArray := prog_1_method_15_code
def yX8_first : MethodName := ⟨RX8, "first", "(I)I"⟩
abbrev cX8_rows : ByteArray := prog_1_method_16_code
def yX8_rows : MethodName := ⟨RX8, "rows", "(IJI)I"⟩
abbrev cX8_sand : ByteArray := prog_1_method_17_code
def yX8_sand : MethodName := ⟨RX8, "sand", "(IIII)I"⟩
abbrev cX8_thaw : ByteArray := prog_1_method_18_code
def yX8_thaw : MethodName := ⟨RX8, "thaw", "(I)I"⟩
abbrev cX8_sheet : ByteArray := prog_1_method_19_code
def yX8_sheet : MethodName := ⟨RX8, "sheet", "(III)I"⟩
abbrev cX8_lose : ByteArray := prog_1_method_20_code
def yX8_lose : MethodName := ⟨RX8, "lose", "(I)I"⟩
abbrev cX8_put : ByteArray := prog_1_method_21_code
def yX8_put : MethodName := ⟨RX8, "put", "(III)I"⟩
abbrev cX8_cell : ByteArray := prog_1_method_22_code
def yX8_cell : MethodName := ⟨RX8, "cell", "(III)J"⟩
abbrev cX8_copy : ByteArray := prog_1_method_23_code
def yX8_copy : MethodName := ⟨RX8, "copy", "(IIIII)I"⟩
abbrev cX8_tell : ByteArray := prog_1_method_24_code
def yX8_tell : MethodName := ⟨RX8, "tell", "(I)I"⟩
abbrev cX8_tellBlock : ByteArray := prog_1_method_25_code
def yX8_tellBlock : MethodName := ⟨RX8, "tellBlock", "(I)I"⟩
abbrev cX8_tellLog : ByteArray := prog_1_method_26_code
def yX8_tellLog : MethodName := ⟨RX8, "tellLog", "(I)I"⟩
abbrev cX8_tellSledge : ByteArray := prog_1_method_27_code
def yX8_tellSledge : MethodName := ⟨RX8, "tellSledge", "(I)I"⟩
abbrev cX8_kick : ByteArray := prog_1_method_28_code
def yX8_kick : MethodName := ⟨RX8, "kick", "(I)I"⟩
abbrev cX8_leaveTrace : ByteArray := prog_1_method_29_code
def yX8_leaveTrace : MethodName := ⟨RX8, "leaveTrace", "(I)V"⟩
abbrev cX8_as : ByteArray := prog_1_method_30_code
def yX8_as : MethodName := ⟨RX8, "as", "(II)I"⟩
abbrev cX8_trace : ByteArray := prog_1_method_31_code
def yX8_trace : MethodName := ⟨RX8, "trace", "()I"⟩
abbrev cX8_fault : ByteArray := prog_1_method_32_code
def yX8_fault : MethodName := ⟨RX8, "fault", "()I"⟩
abbrev cX8_many : ByteArray := prog_1_method_33_code
def yX8_many : MethodName := ⟨RX8, "many", "(I)I"⟩
abbrev cX8_faulty : ByteArray := prog_1_method_34_code
def yX8_faulty : MethodName := ⟨RX8, "faulty", "(I)I"⟩
abbrev cX8_sheetAt : ByteArray := prog_1_method_35_code
def yX8_sheetAt : MethodName := ⟨RX8, "sheetAt", "(I)LIceYard$Sheet;"⟩
abbrev cX8_isLane : ByteArray := prog_1_method_36_code
def yX8_isLane : MethodName := ⟨RX8, "isLane", "(I)Z"⟩
abbrev cX8_isGate : ByteArray := prog_1_method_37_code
def yX8_isGate : MethodName := ⟨RX8, "isGate", "(I)Z"⟩
abbrev cX8_placeOf : ByteArray := prog_1_method_38_code
def yX8_placeOf : MethodName := ⟨RX8, "placeOf", "(JI)I"⟩
abbrev cX8_withPlace : ByteArray := prog_1_method_39_code
def yX8_withPlace : MethodName := ⟨RX8, "withPlace", "(JII)J"⟩
abbrev cX8_whereIs : ByteArray := prog_1_method_40_code
def yX8_whereIs : MethodName := ⟨RX8, "whereIs", "(JI)I"⟩
abbrev cX8_has : ByteArray := prog_1_method_41_code
def yX8_has : MethodName := ⟨RX8, "has", "(JI)Z"⟩
abbrev cX8_pushNumber : ByteArray := prog_1_method_42_code
def yX8_pushNumber : MethodName := ⟨RX8, "pushNumber", "(II)I"⟩
def RX9 : String := "IceYardModel"
def TX9 : u_T := fun k => match k with
  | 0 => ("IceYardModel", "fault", "I", false)
  | 1 => ("IceYardModel", "high", "I", false)
  | 2 => ("IceYardModel", "wide", "I", false)
  | 3 => ("IceYardModel", "blocks", "I", false)
  | 4 => ("IceYardModel", "ground", "[I", true)
  | 5 => ("IceYardModel", "kindOf", "[I", true)
  | 6 => ("IceYardModel", "startOf", "[I", true)
  | 7 => ("IceYardModel", "lies", "[I", true)
  | 8 => ("IceYardModel", "filled", "J", false)
  | 9 => ("IceYardModel", "readAt", "I", false)
  | 10 => ("IceYardModel", "readBlocks", "I", false)
  | 11 => ("IceYardModel", "readCracks", "I", false)
  | 12 => ("IceYardModel", "readGround", "[I", true)
  | 13 => ("IceYardModel", "readKind", "[I", true)
  | 14 => ("IceYardModel", "readStart", "[I", true)
  | 15 => ("IceYardModel", "readHigh", "I", false)
  | 16 => ("IceYardModel", "readWide", "I", false)
  | 17 => ("IceYardModel", "sandMore", "J", false)
  | 18 => ("IceYardModel", "came", "J", false)
  | 19 => ("IceYardModel", "homes", "I", false)
  | 20 => ("IceYardModel", "liesAt", "[I", true)
  | 21 => ("IceYardModel", "filledAt", "[J", true)
  | 22 => ("IceYardModel", "pushes", "I", false)
  | 23 => ("IceYardModel", "liesBefore", "[I", true)
  | 24 => ("IceYardModel", "filledBefore", "[J", true)
  | 25 => ("IceYardModel", "isKept", "[Z", true)
  | 26 => ("IceYardModel", "liesKept", "[I", true)
  | 27 => ("IceYardModel", "filledKept", "[J", true)
  | 28 => ("IceYardModel", "yardAt", "[J", true)
  | 29 => ("IceYardModel", "fromAt", "[I", true)
  | 30 => ("IceYardModel", "byAt", "[I", true)
  | 31 => ("IceYardModel", "placeOf", "[I", true)
  | 32 => ("IceYardModel", "yards", "I", false)
  | 33 => ("IceYardModel", "lastFrom", "I", false)
  | 34 => ("IceYardModel", "lastBy", "I", false)
  | 35 => ("IceYardModel", "rowOf", "[I", true)
  | 36 => ("IceYardModel", "nextPush", "[I", true)
  | 37 => ("IceYardModel", "had", "[Z", true)
  | 38 => ("IceYardModel", "passed", "[Z", true)
  | 39 => ("IceYardModel", "comes", "[Z", true)
  | 40 => ("IceYardModel", "decided", "[Z", true)
  | 41 => ("IceYardModel", "level", "I", false)
  | 42 => ("IceYardModel", "depth", "I", false)
  | 43 => ("IceYardModel", "whose", "I", false)
  | 44 => ("IceYardModel", "cameAt", "[J", true)
  | 45 => ("IceYardModel", "pushAt", "[I", true)
  | 46 => ("IceYardModel", "firstRow", "[I", true)
  | 47 => ("IceYardModel", "sheetSize", "[I", true)
  | 48 => ("IceYardModel", "sheetLane", "[I", true)
  | 49 => ("IceYardModel", "sheet", "[I", true)
  | 50 => ("IceYardModel", "hands", "[I", true)
  | _ => ("IceYardModel", "traceNow", "I", false)
def tyX9 : Nat → FieldType := fun k => match k with
  | 0 => .int
  | 1 => .int
  | 2 => .int
  | 3 => .int
  | 4 => .array .int
  | 5 => .array .int
  | 6 => .array .int
  | 7 => .array .int
  | 8 => .long
  | 9 => .int
  | 10 => .int
  | 11 => .int
  | 12 => .array .int
  | 13 => .array .int
  | 14 => .array .int
  | 15 => .int
  | 16 => .int
  | 17 => .long
  | 18 => .long
  | 19 => .int
  | 20 => .array .int
  | 21 => .array .long
  | 22 => .int
  | 23 => .array .int
  | 24 => .array .long
  | 25 => .array .boolean
  | 26 => .array .int
  | 27 => .array .long
  | 28 => .array .long
  | 29 => .array .int
  | 30 => .array .int
  | 31 => .array .int
  | 32 => .int
  | 33 => .int
  | 34 => .int
  | 35 => .array .int
  | 36 => .array .int
  | 37 => .array .boolean
  | 38 => .array .boolean
  | 39 => .array .boolean
  | 40 => .array .boolean
  | 41 => .int
  | 42 => .int
  | 43 => .int
  | 44 => .array .long
  | 45 => .array .int
  | 46 => .array .int
  | 47 => .array .int
  | 48 => .array .int
  | 49 => .array .int
  | 50 => .array .int
  | _ => .int
abbrev wsX90 : List Cond := u_ws RX9 TX9 52
theorem nmX9 : ∀ a, a < 52 → ∀ b, b < 52 → a ≠ b → (TX9 a).2.1 ≠ (TX9 b).2.1 := by decide +kernel
theorem tyX9_ok : ∀ k, k < 52 → parseFieldDescriptor (TX9 k).2.2.1 = some (tyX9 k) := by decide +kernel
abbrev cX9_init : ByteArray := prog_11_method_1_code
def yX9_init : MethodName := ⟨RX9, "<init>", "()V"⟩
abbrev cX9_in : ByteArray := prog_11_method_2_code
def yX9_in : MethodName := ⟨RX9, "in", "(JJJ)Z"⟩
abbrev cX9_lost : ByteArray := prog_11_method_3_code
def yX9_lost : MethodName := ⟨RX9, "lost", "()J"⟩
abbrev cX9_refused : ByteArray := prog_11_method_4_code
def yX9_refused : MethodName := ⟨RX9, "refused", "(I)I"⟩
abbrev cX9_failed : ByteArray := prog_11_method_5_code
def yX9_failed : MethodName := ⟨RX9, "failed", "(I)I"⟩
abbrev cX9_failedLong : ByteArray := prog_11_method_6_code
def yX9_failedLong : MethodName := ⟨RX9, "failedLong", "(I)J"⟩
abbrev cX9_cells : ByteArray := prog_11_method_7_code
def yX9_cells : MethodName := ⟨RX9, "cells", "()I"⟩
abbrev cX9_codeAt : ByteArray := prog_11_method_8_code
def yX9_codeAt : MethodName := ⟨RX9, "codeAt", "(II)I"⟩
abbrev cX9_groundOf : ByteArray := prog_11_method_9_code
def yX9_groundOf : MethodName := ⟨RX9, "groundOf", "(I)I"⟩
abbrev cX9_readsSign : ByteArray := prog_11_method_10_code
def yX9_readsSign : MethodName := ⟨RX9, "readsSign", "(III)Z"⟩
abbrev cX9_figure : ByteArray := prog_11_method_11_code
def yX9_figure : MethodName := ⟨RX9, "figure", "(II)I"⟩
abbrev cX9_readsYard : ByteArray := prog_11_method_12_code
def yX9_readsYard : MethodName := ⟨RX9, "readsYard", "(II)Z"⟩
abbrev cX9_yard : ByteArray := prog_11_method_13_code
def yX9_yard : MethodName := ⟨RX9, "yard", "(IIII)I"⟩
abbrev cX9_noBlock : ByteArray := prog_11_method_14_code
def yX9_noBlock : MethodName := ⟨RX9, "noBlock", "(I)Z"⟩
abbrev cX9_blockIn : ByteArray := prog_11_method_15_code
def yX9_blockIn : MethodName := ⟨RX9, "blockIn", "(I)I"⟩
abbrev cX9_whatIs : ByteArray := prog_11_method_16_code
def yX9_whatIs : MethodName := ⟨RX9, "whatIs", "(I)I"⟩
abbrev cX9_at : ByteArray := prog_11_method_17_code
def yX9_at : MethodName := ⟨RX9, "at", "(I)I"⟩
abbrev cX9_ofBlock : ByteArray := prog_11_method_18_code
def yX9_ofBlock : MethodName := ⟨RX9, "ofBlock", "(II)I"⟩
abbrev cX9_beside : ByteArray := prog_11_method_19_code
def yX9_beside : MethodName := ⟨RX9, "beside", "(II)I"⟩
abbrev cX9_slide : ByteArray := prog_11_method_20_code
def yX9_slide : MethodName := ⟨RX9, "slide", "(II)I"⟩
abbrev cX9_goes : ByteArray := prog_11_method_21_code
def yX9_goes : MethodName := ⟨RX9, "goes", "(II)Z"⟩
abbrev cX9_hold : ByteArray := prog_11_method_22_code
def yX9_hold : MethodName := ⟨RX9, "hold", "(I)V"⟩
abbrev cX9_give : ByteArray := prog_11_method_23_code
def yX9_give : MethodName := ⟨RX9, "give", "(I)V"⟩
abbrev cX9_pushBarred : ByteArray := prog_11_method_24_code
def yX9_pushBarred : MethodName := ⟨RX9, "pushBarred", "(II)I"⟩
abbrev cX9_push : ByteArray := prog_11_method_25_code
def yX9_push : MethodName := ⟨RX9, "push", "(II)I"⟩
abbrev cX9_would : ByteArray := prog_11_method_26_code
def yX9_would : MethodName := ⟨RX9, "would", "(II)I"⟩
abbrev cX9_tracks : ByteArray := prog_11_method_27_code
def yX9_tracks : MethodName := ⟨RX9, "tracks", "(II)J"⟩
abbrev cX9_undo : ByteArray := prog_11_method_28_code
def yX9_undo : MethodName := ⟨RX9, "undo", "(I)I"⟩
abbrev cX9_keep : ByteArray := prog_11_method_29_code
def yX9_keep : MethodName := ⟨RX9, "keep", "(I)I"⟩
abbrev cX9_back : ByteArray := prog_11_method_30_code
def yX9_back : MethodName := ⟨RX9, "back", "(I)I"⟩
abbrev cX9_codeOf : ByteArray := prog_11_method_31_code
def yX9_codeOf : MethodName := ⟨RX9, "codeOf", "(I)I"⟩
abbrev cX9_yardNow : ByteArray := prog_11_method_32_code
def yX9_yardNow : MethodName := ⟨RX9, "yardNow", "()J"⟩
abbrev cX9_layYard : ByteArray := prog_11_method_33_code
def yX9_layYard : MethodName := ⟨RX9, "layYard", "(J)V"⟩
abbrev cX9_placeFor : ByteArray := prog_11_method_34_code
def yX9_placeFor : MethodName := ⟨RX9, "placeFor", "(J)I"⟩
abbrev cX9_addYard : ByteArray := prog_11_method_35_code
def yX9_addYard : MethodName := ⟨RX9, "addYard", "(JII)Z"⟩
abbrev cX9_spread : ByteArray := prog_11_method_36_code
def yX9_spread : MethodName := ⟨RX9, "spread", "(II)I"⟩
abbrev cX9_fewest : ByteArray := prog_11_method_37_code
def yX9_fewest : MethodName := ⟨RX9, "fewest", "(II)I"⟩
abbrev cX9_isOwn : ByteArray := prog_11_method_38_code
def yX9_isOwn : MethodName := ⟨RX9, "isOwn", "(I)Z"⟩
abbrev cX9_enter : ByteArray := prog_11_method_39_code
def yX9_enter : MethodName := ⟨RX9, "enter", "(I)V"⟩
abbrev cX9_learn : ByteArray := prog_11_method_40_code
def yX9_learn : MethodName := ⟨RX9, "learn", "(IZ)V"⟩
abbrev cX9_descend : ByteArray := prog_11_method_41_code
def yX9_descend : MethodName := ⟨RX9, "descend", "(I)V"⟩
abbrev cX9_tryNext : ByteArray := prog_11_method_42_code
def yX9_tryNext : MethodName := ⟨RX9, "tryNext", "(I)Z"⟩
abbrev cX9_hasWon : ByteArray := prog_11_method_43_code
def yX9_hasWon : MethodName := ⟨RX9, "hasWon", "(II)Z"⟩
abbrev cX9_wonIn : ByteArray := prog_11_method_44_code
def yX9_wonIn : MethodName := ⟨RX9, "wonIn", "(I)I"⟩
abbrev cX9_won : ByteArray := prog_11_method_45_code
def yX9_won : MethodName := ⟨RX9, "won", "(I)I"⟩
abbrev cX9_first : ByteArray := prog_11_method_46_code
def yX9_first : MethodName := ⟨RX9, "first", "(I)I"⟩
abbrev cX9_goRow : ByteArray := prog_11_method_47_code
def yX9_goRow : MethodName := ⟨RX9, "goRow", "(II)Z"⟩
abbrev cX9_rows : ByteArray := prog_11_method_48_code
def yX9_rows : MethodName := ⟨RX9, "rows", "(IJI)I"⟩
abbrev cX9_comesHome : ByteArray := prog_11_method_49_code
def yX9_comesHome : MethodName := ⟨RX9, "comesHome", "(III)Z"⟩
abbrev cX9_maySand : ByteArray := prog_11_method_50_code
def yX9_maySand : MethodName := ⟨RX9, "maySand", "(I)Z"⟩
abbrev cX9_sand : ByteArray := prog_11_method_51_code
def yX9_sand : MethodName := ⟨RX9, "sand", "(IIII)I"⟩
abbrev cX9_thaw : ByteArray := prog_11_method_52_code
def yX9_thaw : MethodName := ⟨RX9, "thaw", "(I)I"⟩
abbrev cX9_noSheet : ByteArray := prog_11_method_53_code
def yX9_noSheet : MethodName := ⟨RX9, "noSheet", "(I)Z"⟩
abbrev cX9_sheet : ByteArray := prog_11_method_54_code
def yX9_sheet : MethodName := ⟨RX9, "sheet", "(III)I"⟩
abbrev cX9_lose : ByteArray := prog_11_method_55_code
def yX9_lose : MethodName := ⟨RX9, "lose", "(I)I"⟩
abbrev cX9_noCell : ByteArray := prog_11_method_56_code
def yX9_noCell : MethodName := ⟨RX9, "noCell", "(II)I"⟩
abbrev cX9_put : ByteArray := prog_11_method_57_code
def yX9_put : MethodName := ⟨RX9, "put", "(III)I"⟩
abbrev cX9_cell : ByteArray := prog_11_method_58_code
def yX9_cell : MethodName := ⟨RX9, "cell", "(III)J"⟩
abbrev cX9_isBeyond : ByteArray := prog_11_method_59_code
def yX9_isBeyond : MethodName := ⟨RX9, "isBeyond", "(IJI)Z"⟩
abbrev cX9_copy : ByteArray := prog_11_method_60_code
def yX9_copy : MethodName := ⟨RX9, "copy", "(IIIII)I"⟩
abbrev cX9_traced : ByteArray := prog_11_method_61_code
def yX9_traced : MethodName := ⟨RX9, "traced", "(I)V"⟩
abbrev cX9_tell : ByteArray := prog_11_method_62_code
def yX9_tell : MethodName := ⟨RX9, "tell", "(I)I"⟩
abbrev cX9_kick : ByteArray := prog_11_method_63_code
def yX9_kick : MethodName := ⟨RX9, "kick", "(I)I"⟩
abbrev cX9_as : ByteArray := prog_11_method_64_code
def yX9_as : MethodName := ⟨RX9, "as", "(II)I"⟩
abbrev cX9_trace : ByteArray := prog_11_method_65_code
def yX9_trace : MethodName := ⟨RX9, "trace", "()I"⟩
abbrev cX9_fault : ByteArray := prog_11_method_66_code
def yX9_fault : MethodName := ⟨RX9, "fault", "()I"⟩
abbrev cX9_cracksOpen : ByteArray := prog_11_method_67_code
def yX9_cracksOpen : MethodName := ⟨RX9, "cracksOpen", "()I"⟩
abbrev cX9_many : ByteArray := prog_11_method_68_code
def yX9_many : MethodName := ⟨RX9, "many", "(I)I"⟩
def RJ13 : String := "java/lang/Long"
def TJ13 : u_T := fun k => match k with
  | _ => ("", "", "", false)
def tyJ13 : Nat → FieldType := fun k => match k with
  | _ => .int
abbrev wsJ130 : List Cond := u_ws RJ13 TJ13 0
theorem nmJ13 : ∀ a, a < 0 → ∀ b, b < 0 → a ≠ b → (TJ13 a).2.1 ≠ (TJ13 b).2.1 := by decide +kernel
theorem tyJ13_ok : ∀ k, k < 0 → parseFieldDescriptor (TJ13 k).2.2.1 = some (tyJ13 k) := by decide +kernel
abbrev cJ13_bitCount_95d88 : ByteArray := prog_12_method_50_code
def yJ13_bitCount_95d88 : MethodName := ⟨RJ13, "bitCount", "(J)I"⟩
def RJ9 : String := "java/lang/Math"
def TJ9 : u_T := fun k => match k with
  | _ => ("", "", "", false)
def tyJ9 : Nat → FieldType := fun k => match k with
  | _ => .int
abbrev wsJ90 : List Cond := u_ws RJ9 TJ9 0
theorem nmJ9 : ∀ a, a < 0 → ∀ b, b < 0 → a ≠ b → (TJ9 a).2.1 ≠ (TJ9 b).2.1 := by decide +kernel
theorem tyJ9_ok : ∀ k, k < 0 → parseFieldDescriptor (TJ9 k).2.2.1 = some (tyJ9 k) := by decide +kernel
abbrev cJ9_min_7cf53 : ByteArray := prog_13_method_69_code
def yJ9_min_7cf53 : MethodName := ⟨RJ9, "min", "(II)I"⟩
def RJ10 : String := "java/lang/System"
def TJ10 : u_T := fun k => match k with
  | _ => ("", "", "", false)
def tyJ10 : Nat → FieldType := fun k => match k with
  | _ => .int
abbrev wsJ100 : List Cond := u_ws RJ10 TJ10 0
theorem nmJ10 : ∀ a, a < 0 → ∀ b, b < 0 → a ≠ b → (TJ10 a).2.1 ≠ (TJ10 b).2.1 := by decide +kernel
theorem tyJ10_ok : ∀ k, k < 0 → parseFieldDescriptor (TJ10 k).2.2.1 = some (tyJ10 k) := by decide +kernel
def RJ7 : String := "java/util/Arrays"
def TJ7 : u_T := fun k => match k with
  | _ => ("", "", "", false)
def tyJ7 : Nat → FieldType := fun k => match k with
  | _ => .int
abbrev wsJ70 : List Cond := u_ws RJ7 TJ7 0
theorem nmJ7 : ∀ a, a < 0 → ∀ b, b < 0 → a ≠ b → (TJ7 a).2.1 ≠ (TJ7 b).2.1 := by decide +kernel
theorem tyJ7_ok : ∀ k, k < 0 → parseFieldDescriptor (TJ7 k).2.2.1 = some (tyJ7 k) := by decide +kernel
abbrev cJ7_fill_d0a16 : ByteArray := prog_15_method_101_code
def yJ7_fill_d0a16 : MethodName := ⟨RJ7, "fill", "([JJ)V"⟩
abbrev cJ7_fill_53178 : ByteArray := prog_15_method_103_code
def yJ7_fill_53178 : MethodName := ⟨RJ7, "fill", "([II)V"⟩
def RL : String := "IceYardLaw"
abbrev cL_law : ByteArray := code
def yL_law : MethodName := ⟨RL, "law", "([I)Z"⟩
abbrev vwCl : List vw_C := [(RX0, TX0, 3), (RX1, TX1, 13), (RX2, TX2, 6), (RX3, TX3, 3), (RX4, TX4, 9), (RX5, TX5, 3), (RX6, TX6, 10), (RX8, TX8, 13), (RX9, TX9, 52)]
/-- the words that every method is proved with: all good ones of the tables -/
def BW : List Cond := lw_tbl.filter goodWord
theorem bw_good : ∀ w ∈ BW, goodWord w = true := fun _ h => (List.mem_filter.mp h).2
theorem bw_in : ∀ w ∈ BW, w ∈ lw_tbl := fun _ h => (List.mem_filter.mp h).1
theorem bw1 (i : Nat) {w : Cond} (h : tables_1_1[i]? = some w) (g : goodWord w = true) : w ∈ BW := List.mem_filter.mpr ⟨List.mem_append_right _ (List.mem_append_left _ (List.mem_of_getElem? h)), g⟩
theorem bw2 (i : Nat) {w : Cond} (h : tables_1_2[i]? = some w) (g : goodWord w = true) : w ∈ BW := List.mem_filter.mpr ⟨List.mem_append_right _ (List.mem_append_right _ (List.mem_append_left _ (List.mem_of_getElem? h))), g⟩
theorem bw3 (i : Nat) {w : Cond} (h : tables_1_3[i]? = some w) (g : goodWord w = true) : w ∈ BW := List.mem_filter.mpr ⟨List.mem_append_right _ (List.mem_append_right _ (List.mem_append_right _ (List.mem_append_left _ (List.mem_of_getElem? h)))), g⟩
theorem bw4 (i : Nat) {w : Cond} (h : tables_1_4[i]? = some w) (g : goodWord w = true) : w ∈ BW := List.mem_filter.mpr ⟨List.mem_append_right _ (List.mem_append_right _ (List.mem_append_right _ (List.mem_append_right _ (List.mem_append_left _ (List.mem_of_getElem? h))))), g⟩
theorem bw5 (i : Nat) {w : Cond} (h : tables_1_5[i]? = some w) (g : goodWord w = true) : w ∈ BW := List.mem_filter.mpr ⟨List.mem_append_right _ (List.mem_append_right _ (List.mem_append_right _ (List.mem_append_right _ (List.mem_append_right _ (List.mem_of_getElem? h))))), g⟩
theorem bwp (i : Nat) {q : MethodName × Nat} (h : lw_privs[i]? = some q) : Cond.selects q.1.cls q.1 q.1 ∈ BW := List.mem_filter.mpr ⟨List.mem_append_left _ (List.mem_map.mpr ⟨q, List.mem_of_getElem? h, rfl⟩), rfl⟩
