-- ===== PART A: goes FIRST, ahead of the names: the tables' words, and 'selects' of the private methods out of them =====
/-- a private method of a class that the tables say can be made, by its rows of tables_1 -/
def lw_okq (q : MethodName × Nat) : Prop := (q.1.cls ≠ "java/lang/invoke/MethodHandle" ∧ q.1.cls ≠ "java/lang/invoke/VarHandle") ∧ Cond.instantiable q.1.cls q.2 ∈ tables_1 ∧ Cond.privateMethod q.1 ∈ tables_1 ∧ Cond.instanceMethod q.1 ∈ tables_1
theorem lw_p0 : lw_okq (⟨"FarewellStones", "beginAnew", "()V"⟩, 16) := ⟨⟨by decide +kernel, by decide +kernel⟩, List.mem_of_getElem? (i := 22) (by decide +kernel), List.mem_of_getElem? (i := 374) (by decide +kernel), List.mem_of_getElem? (i := 375) (by decide +kernel)⟩
theorem lw_p1 : lw_okq (⟨"FarewellStones$Tokens", "put", "(IIII)V"⟩, 4) := ⟨⟨by decide +kernel, by decide +kernel⟩, List.mem_of_getElem? (i := 52) (by decide +kernel), List.mem_of_getElem? (i := 590) (by decide +kernel), List.mem_of_getElem? (i := 591) (by decide +kernel)⟩
theorem lw_p2 : lw_okq (⟨"FarewellStones$Reader", "readRiver", "(LFarewellStones$River;)V"⟩, 8) := ⟨⟨by decide +kernel, by decide +kernel⟩, List.mem_of_getElem? (i := 46) (by decide +kernel), List.mem_of_getElem? (i := 598) (by decide +kernel), List.mem_of_getElem? (i := 599) (by decide +kernel)⟩
theorem lw_p3 : lw_okq (⟨"FarewellStones$Reader", "take", "(I)V"⟩, 8) := ⟨⟨by decide +kernel, by decide +kernel⟩, List.mem_of_getElem? (i := 46) (by decide +kernel), List.mem_of_getElem? (i := 602) (by decide +kernel), List.mem_of_getElem? (i := 603) (by decide +kernel)⟩
theorem lw_p4 : lw_okq (⟨"FarewellStones$Reader", "fail", "(I)V"⟩, 8) := ⟨⟨by decide +kernel, by decide +kernel⟩, List.mem_of_getElem? (i := 46) (by decide +kernel), List.mem_of_getElem? (i := 606) (by decide +kernel), List.mem_of_getElem? (i := 607) (by decide +kernel)⟩
theorem lw_p5 : lw_okq (⟨"FarewellStones$Reader", "takeInt", "(II)I"⟩, 8) := ⟨⟨by decide +kernel, by decide +kernel⟩, List.mem_of_getElem? (i := 46) (by decide +kernel), List.mem_of_getElem? (i := 610) (by decide +kernel), List.mem_of_getElem? (i := 611) (by decide +kernel)⟩
theorem lw_p6 : lw_okq (⟨"FarewellStones$Reader", "failLater", "(II)V"⟩, 8) := ⟨⟨by decide +kernel, by decide +kernel⟩, List.mem_of_getElem? (i := 46) (by decide +kernel), List.mem_of_getElem? (i := 614) (by decide +kernel), List.mem_of_getElem? (i := 615) (by decide +kernel)⟩
theorem lw_p7 : lw_okq (⟨"FarewellStones$Reader", "readDepth", "(LFarewellStones$River;)V"⟩, 8) := ⟨⟨by decide +kernel, by decide +kernel⟩, List.mem_of_getElem? (i := 46) (by decide +kernel), List.mem_of_getElem? (i := 618) (by decide +kernel), List.mem_of_getElem? (i := 619) (by decide +kernel)⟩
theorem lw_p8 : lw_okq (⟨"FarewellStones$Reader", "readFlow", "(LFarewellStones$River;)V"⟩, 8) := ⟨⟨by decide +kernel, by decide +kernel⟩, List.mem_of_getElem? (i := 46) (by decide +kernel), List.mem_of_getElem? (i := 625) (by decide +kernel), List.mem_of_getElem? (i := 626) (by decide +kernel)⟩
theorem lw_p9 : lw_okq (⟨"FarewellStones$Reader", "readLeap", "(LFarewellStones$River;)V"⟩, 8) := ⟨⟨by decide +kernel, by decide +kernel⟩, List.mem_of_getElem? (i := 46) (by decide +kernel), List.mem_of_getElem? (i := 629) (by decide +kernel), List.mem_of_getElem? (i := 630) (by decide +kernel)⟩
theorem lw_p10 : lw_okq (⟨"FarewellStones$Reader", "readLeaver", "(LFarewellStones$Tape;LFarewellStones$River;)V"⟩, 8) := ⟨⟨by decide +kernel, by decide +kernel⟩, List.mem_of_getElem? (i := 46) (by decide +kernel), List.mem_of_getElem? (i := 633) (by decide +kernel), List.mem_of_getElem? (i := 634) (by decide +kernel)⟩
theorem lw_p11 : lw_okq (⟨"FarewellStones$Reader", "takeName", "(LFarewellStones$Tape;I)V"⟩, 8) := ⟨⟨by decide +kernel, by decide +kernel⟩, List.mem_of_getElem? (i := 46) (by decide +kernel), List.mem_of_getElem? (i := 637) (by decide +kernel), List.mem_of_getElem? (i := 638) (by decide +kernel)⟩
theorem lw_p12 : lw_okq (⟨"FarewellStones$Reader", "isSameName", "(LFarewellStones$Tape;II)Z"⟩, 8) := ⟨⟨by decide +kernel, by decide +kernel⟩, List.mem_of_getElem? (i := 46) (by decide +kernel), List.mem_of_getElem? (i := 641) (by decide +kernel), List.mem_of_getElem? (i := 642) (by decide +kernel)⟩
theorem lw_p13 : lw_okq (⟨"FarewellStones$Reader", "readFlood", "(LFarewellStones$River;)V"⟩, 8) := ⟨⟨by decide +kernel, by decide +kernel⟩, List.mem_of_getElem? (i := 46) (by decide +kernel), List.mem_of_getElem? (i := 646) (by decide +kernel), List.mem_of_getElem? (i := 647) (by decide +kernel)⟩
theorem lw_p14 : lw_okq (⟨"FarewellStones$Reader", "readLaw", "(LFarewellStones$Law;)V"⟩, 8) := ⟨⟨by decide +kernel, by decide +kernel⟩, List.mem_of_getElem? (i := 46) (by decide +kernel), List.mem_of_getElem? (i := 650) (by decide +kernel), List.mem_of_getElem? (i := 651) (by decide +kernel)⟩
theorem lw_p15 : lw_okq (⟨"FarewellStones$Reader", "readSum", "(LFarewellStones$Law;I)V"⟩, 8) := ⟨⟨by decide +kernel, by decide +kernel⟩, List.mem_of_getElem? (i := 46) (by decide +kernel), List.mem_of_getElem? (i := 655) (by decide +kernel), List.mem_of_getElem? (i := 656) (by decide +kernel)⟩
def lw_privs_1 : List (MethodName × Nat) := [(⟨"FarewellStones", "beginAnew", "()V"⟩, 16), (⟨"FarewellStones$Tokens", "put", "(IIII)V"⟩, 4), (⟨"FarewellStones$Reader", "readRiver", "(LFarewellStones$River;)V"⟩, 8), (⟨"FarewellStones$Reader", "take", "(I)V"⟩, 8), (⟨"FarewellStones$Reader", "fail", "(I)V"⟩, 8), (⟨"FarewellStones$Reader", "takeInt", "(II)I"⟩, 8), (⟨"FarewellStones$Reader", "failLater", "(II)V"⟩, 8), (⟨"FarewellStones$Reader", "readDepth", "(LFarewellStones$River;)V"⟩, 8), (⟨"FarewellStones$Reader", "readFlow", "(LFarewellStones$River;)V"⟩, 8), (⟨"FarewellStones$Reader", "readLeap", "(LFarewellStones$River;)V"⟩, 8), (⟨"FarewellStones$Reader", "readLeaver", "(LFarewellStones$Tape;LFarewellStones$River;)V"⟩, 8), (⟨"FarewellStones$Reader", "takeName", "(LFarewellStones$Tape;I)V"⟩, 8), (⟨"FarewellStones$Reader", "isSameName", "(LFarewellStones$Tape;II)Z"⟩, 8), (⟨"FarewellStones$Reader", "readFlood", "(LFarewellStones$River;)V"⟩, 8), (⟨"FarewellStones$Reader", "readLaw", "(LFarewellStones$Law;)V"⟩, 8), (⟨"FarewellStones$Reader", "readSum", "(LFarewellStones$Law;I)V"⟩, 8)]
theorem lw_r1 : ∀ q ∈ lw_privs_1, lw_okq q := List.forall_mem_cons.mpr ⟨lw_p0, List.forall_mem_cons.mpr ⟨lw_p1, List.forall_mem_cons.mpr ⟨lw_p2, List.forall_mem_cons.mpr ⟨lw_p3, List.forall_mem_cons.mpr ⟨lw_p4, List.forall_mem_cons.mpr ⟨lw_p5, List.forall_mem_cons.mpr ⟨lw_p6, List.forall_mem_cons.mpr ⟨lw_p7, List.forall_mem_cons.mpr ⟨lw_p8, List.forall_mem_cons.mpr ⟨lw_p9, List.forall_mem_cons.mpr ⟨lw_p10, List.forall_mem_cons.mpr ⟨lw_p11, List.forall_mem_cons.mpr ⟨lw_p12, List.forall_mem_cons.mpr ⟨lw_p13, List.forall_mem_cons.mpr ⟨lw_p14, List.forall_mem_cons.mpr ⟨lw_p15, fun _ h => absurd h List.not_mem_nil⟩⟩⟩⟩⟩⟩⟩⟩⟩⟩⟩⟩⟩⟩⟩⟩
theorem lw_p16 : lw_okq (⟨"FarewellStones$Reader", "readProduct", "(LFarewellStones$Law;I)V"⟩, 8) := ⟨⟨by decide +kernel, by decide +kernel⟩, List.mem_of_getElem? (i := 46) (by decide +kernel), List.mem_of_getElem? (i := 659) (by decide +kernel), List.mem_of_getElem? (i := 660) (by decide +kernel)⟩
theorem lw_p17 : lw_okq (⟨"FarewellStones$Reader", "readUnit", "(LFarewellStones$Law;I)V"⟩, 8) := ⟨⟨by decide +kernel, by decide +kernel⟩, List.mem_of_getElem? (i := 46) (by decide +kernel), List.mem_of_getElem? (i := 663) (by decide +kernel), List.mem_of_getElem? (i := 664) (by decide +kernel)⟩
theorem lw_p18 : lw_okq (⟨"FarewellStones$Reader", "isEither", "(II)Z"⟩, 8) := ⟨⟨by decide +kernel, by decide +kernel⟩, List.mem_of_getElem? (i := 46) (by decide +kernel), List.mem_of_getElem? (i := 671) (by decide +kernel), List.mem_of_getElem? (i := 672) (by decide +kernel)⟩
theorem lw_p19 : lw_okq (⟨"FarewellStones$Bed", "mossOn", "(II)I"⟩, 7) := ⟨⟨by decide +kernel, by decide +kernel⟩, List.mem_of_getElem? (i := 208) (by decide +kernel), List.mem_of_getElem? (i := 700) (by decide +kernel), List.mem_of_getElem? (i := 701) (by decide +kernel)⟩
theorem lw_p20 : lw_okq (⟨"FarewellStones$Law", "seenAt", "(I)I"⟩, 5) := ⟨⟨by decide +kernel, by decide +kernel⟩, List.mem_of_getElem? (i := 107) (by decide +kernel), List.mem_of_getElem? (i := 718) (by decide +kernel), List.mem_of_getElem? (i := 719) (by decide +kernel)⟩
theorem lw_p21 : lw_okq (⟨"FarewellStones", "isLeaver", "(I)Z"⟩, 16) := ⟨⟨by decide +kernel, by decide +kernel⟩, List.mem_of_getElem? (i := 22) (by decide +kernel), List.mem_of_getElem? (i := 738) (by decide +kernel), List.mem_of_getElem? (i := 739) (by decide +kernel)⟩
theorem lw_p22 : lw_okq (⟨"FarewellStones", "countHeld", "()I"⟩, 16) := ⟨⟨by decide +kernel, by decide +kernel⟩, List.mem_of_getElem? (i := 22) (by decide +kernel), List.mem_of_getElem? (i := 769) (by decide +kernel), List.mem_of_getElem? (i := 770) (by decide +kernel)⟩
theorem lw_p23 : lw_okq (⟨"FarewellStones$Bed", "layOn", "(IIIII)V"⟩, 7) := ⟨⟨by decide +kernel, by decide +kernel⟩, List.mem_of_getElem? (i := 208) (by decide +kernel), List.mem_of_getElem? (i := 797) (by decide +kernel), List.mem_of_getElem? (i := 798) (by decide +kernel)⟩
theorem lw_p24 : lw_okq (⟨"FarewellStones$Bed", "floodRow", "(LFarewellStones$River;II)V"⟩, 7) := ⟨⟨by decide +kernel, by decide +kernel⟩, List.mem_of_getElem? (i := 208) (by decide +kernel), List.mem_of_getElem? (i := 816) (by decide +kernel), List.mem_of_getElem? (i := 817) (by decide +kernel)⟩
theorem lw_p25 : lw_okq (⟨"FarewellStones$Bed", "carryOff", "(III)V"⟩, 7) := ⟨⟨by decide +kernel, by decide +kernel⟩, List.mem_of_getElem? (i := 208) (by decide +kernel), List.mem_of_getElem? (i := 820) (by decide +kernel), List.mem_of_getElem? (i := 821) (by decide +kernel)⟩
theorem lw_p26 : lw_okq (⟨"FarewellStones$Bed", "lose", "(II)V"⟩, 7) := ⟨⟨by decide +kernel, by decide +kernel⟩, List.mem_of_getElem? (i := 208) (by decide +kernel), List.mem_of_getElem? (i := 824) (by decide +kernel), List.mem_of_getElem? (i := 825) (by decide +kernel)⟩
theorem lw_p27 : lw_okq (⟨"FarewellStones", "findWayOver", "(I)Z"⟩, 16) := ⟨⟨by decide +kernel, by decide +kernel⟩, List.mem_of_getElem? (i := 22) (by decide +kernel), List.mem_of_getElem? (i := 849) (by decide +kernel), List.mem_of_getElem? (i := 850) (by decide +kernel)⟩
theorem lw_p28 : lw_okq (⟨"FarewellStones$Ways", "weighCosts", "(LFarewellStones$River;II)V"⟩, 6) := ⟨⟨by decide +kernel, by decide +kernel⟩, List.mem_of_getElem? (i := 260) (by decide +kernel), List.mem_of_getElem? (i := 862) (by decide +kernel), List.mem_of_getElem? (i := 863) (by decide +kernel)⟩
theorem lw_p29 : lw_okq (⟨"FarewellStones$Ways", "cheapest", "()I"⟩, 6) := ⟨⟨by decide +kernel, by decide +kernel⟩, List.mem_of_getElem? (i := 260) (by decide +kernel), List.mem_of_getElem? (i := 878) (by decide +kernel), List.mem_of_getElem? (i := 879) (by decide +kernel)⟩
theorem lw_p30 : lw_okq (⟨"FarewellStones$Ways", "drawLine", "(LFarewellStones$River;III)V"⟩, 6) := ⟨⟨by decide +kernel, by decide +kernel⟩, List.mem_of_getElem? (i := 260) (by decide +kernel), List.mem_of_getElem? (i := 899) (by decide +kernel), List.mem_of_getElem? (i := 900) (by decide +kernel)⟩
theorem lw_p31 : lw_okq (⟨"FarewellStones$Ways", "firstWithCost", "(LFarewellStones$River;II)I"⟩, 6) := ⟨⟨by decide +kernel, by decide +kernel⟩, List.mem_of_getElem? (i := 260) (by decide +kernel), List.mem_of_getElem? (i := 903) (by decide +kernel), List.mem_of_getElem? (i := 904) (by decide +kernel)⟩
def lw_privs_2 : List (MethodName × Nat) := [(⟨"FarewellStones$Reader", "readProduct", "(LFarewellStones$Law;I)V"⟩, 8), (⟨"FarewellStones$Reader", "readUnit", "(LFarewellStones$Law;I)V"⟩, 8), (⟨"FarewellStones$Reader", "isEither", "(II)Z"⟩, 8), (⟨"FarewellStones$Bed", "mossOn", "(II)I"⟩, 7), (⟨"FarewellStones$Law", "seenAt", "(I)I"⟩, 5), (⟨"FarewellStones", "isLeaver", "(I)Z"⟩, 16), (⟨"FarewellStones", "countHeld", "()I"⟩, 16), (⟨"FarewellStones$Bed", "layOn", "(IIIII)V"⟩, 7), (⟨"FarewellStones$Bed", "floodRow", "(LFarewellStones$River;II)V"⟩, 7), (⟨"FarewellStones$Bed", "carryOff", "(III)V"⟩, 7), (⟨"FarewellStones$Bed", "lose", "(II)V"⟩, 7), (⟨"FarewellStones", "findWayOver", "(I)Z"⟩, 16), (⟨"FarewellStones$Ways", "weighCosts", "(LFarewellStones$River;II)V"⟩, 6), (⟨"FarewellStones$Ways", "cheapest", "()I"⟩, 6), (⟨"FarewellStones$Ways", "drawLine", "(LFarewellStones$River;III)V"⟩, 6), (⟨"FarewellStones$Ways", "firstWithCost", "(LFarewellStones$River;II)I"⟩, 6)]
theorem lw_r2 : ∀ q ∈ lw_privs_2, lw_okq q := List.forall_mem_cons.mpr ⟨lw_p16, List.forall_mem_cons.mpr ⟨lw_p17, List.forall_mem_cons.mpr ⟨lw_p18, List.forall_mem_cons.mpr ⟨lw_p19, List.forall_mem_cons.mpr ⟨lw_p20, List.forall_mem_cons.mpr ⟨lw_p21, List.forall_mem_cons.mpr ⟨lw_p22, List.forall_mem_cons.mpr ⟨lw_p23, List.forall_mem_cons.mpr ⟨lw_p24, List.forall_mem_cons.mpr ⟨lw_p25, List.forall_mem_cons.mpr ⟨lw_p26, List.forall_mem_cons.mpr ⟨lw_p27, List.forall_mem_cons.mpr ⟨lw_p28, List.forall_mem_cons.mpr ⟨lw_p29, List.forall_mem_cons.mpr ⟨lw_p30, List.forall_mem_cons.mpr ⟨lw_p31, fun _ h => absurd h List.not_mem_nil⟩⟩⟩⟩⟩⟩⟩⟩⟩⟩⟩⟩⟩⟩⟩⟩
theorem lw_p32 : lw_okq (⟨"FarewellStones", "findLack", "()V"⟩, 16) := ⟨⟨by decide +kernel, by decide +kernel⟩, List.mem_of_getElem? (i := 22) (by decide +kernel), List.mem_of_getElem? (i := 930) (by decide +kernel), List.mem_of_getElem? (i := 931) (by decide +kernel)⟩
theorem lw_p33 : lw_okq (⟨"FarewellStones", "findGivers", "()Z"⟩, 16) := ⟨⟨by decide +kernel, by decide +kernel⟩, List.mem_of_getElem? (i := 22) (by decide +kernel), List.mem_of_getElem? (i := 946) (by decide +kernel), List.mem_of_getElem? (i := 947) (by decide +kernel)⟩
theorem lw_p34 : lw_okq (⟨"FarewellStones$Givers", "listNeeds", "(LFarewellStones$Ways;)V"⟩, 13) := ⟨⟨by decide +kernel, by decide +kernel⟩, List.mem_of_getElem? (i := 314) (by decide +kernel), List.mem_of_getElem? (i := 958) (by decide +kernel), List.mem_of_getElem? (i := 959) (by decide +kernel)⟩
theorem lw_p35 : lw_okq (⟨"FarewellStones$Givers", "give", "(I)Z"⟩, 13) := ⟨⟨by decide +kernel, by decide +kernel⟩, List.mem_of_getElem? (i := 314) (by decide +kernel), List.mem_of_getElem? (i := 962) (by decide +kernel), List.mem_of_getElem? (i := 963) (by decide +kernel)⟩
theorem lw_p36 : lw_okq (⟨"FarewellStones$Givers", "canGive", "(II)Z"⟩, 13) := ⟨⟨by decide +kernel, by decide +kernel⟩, List.mem_of_getElem? (i := 314) (by decide +kernel), List.mem_of_getElem? (i := 967) (by decide +kernel), List.mem_of_getElem? (i := 968) (by decide +kernel)⟩
theorem lw_p37 : lw_okq (⟨"FarewellStones$Givers", "spread", "(III)V"⟩, 13) := ⟨⟨by decide +kernel, by decide +kernel⟩, List.mem_of_getElem? (i := 314) (by decide +kernel), List.mem_of_getElem? (i := 971) (by decide +kernel), List.mem_of_getElem? (i := 972) (by decide +kernel)⟩
theorem lw_p38 : lw_okq (⟨"FarewellStones$Givers", "leastFree", "()I"⟩, 13) := ⟨⟨by decide +kernel, by decide +kernel⟩, List.mem_of_getElem? (i := 314) (by decide +kernel), List.mem_of_getElem? (i := 975) (by decide +kernel), List.mem_of_getElem? (i := 976) (by decide +kernel)⟩
theorem lw_p39 : lw_okq (⟨"FarewellStones$Givers", "isFree", "(I)Z"⟩, 13) := ⟨⟨by decide +kernel, by decide +kernel⟩, List.mem_of_getElem? (i := 314) (by decide +kernel), List.mem_of_getElem? (i := 979) (by decide +kernel), List.mem_of_getElem? (i := 980) (by decide +kernel)⟩
theorem lw_p40 : lw_okq (⟨"FarewellStones$Givers", "passOn", "(I)I"⟩, 13) := ⟨⟨by decide +kernel, by decide +kernel⟩, List.mem_of_getElem? (i := 314) (by decide +kernel), List.mem_of_getElem? (i := 983) (by decide +kernel), List.mem_of_getElem? (i := 984) (by decide +kernel)⟩
theorem lw_p41 : lw_okq (⟨"FarewellStones$Givers", "giveByFirst", "(I)V"⟩, 13) := ⟨⟨by decide +kernel, by decide +kernel⟩, List.mem_of_getElem? (i := 314) (by decide +kernel), List.mem_of_getElem? (i := 987) (by decide +kernel), List.mem_of_getElem? (i := 988) (by decide +kernel)⟩
theorem lw_p42 : lw_okq (⟨"FarewellStones$Givers", "giveInstead", "(III)Z"⟩, 13) := ⟨⟨by decide +kernel, by decide +kernel⟩, List.mem_of_getElem? (i := 314) (by decide +kernel), List.mem_of_getElem? (i := 991) (by decide +kernel), List.mem_of_getElem? (i := 992) (by decide +kernel)⟩
theorem lw_p43 : lw_okq (⟨"FarewellStones$Givers", "spreadBack", "(III)V"⟩, 13) := ⟨⟨by decide +kernel, by decide +kernel⟩, List.mem_of_getElem? (i := 314) (by decide +kernel), List.mem_of_getElem? (i := 995) (by decide +kernel), List.mem_of_getElem? (i := 996) (by decide +kernel)⟩
theorem lw_p44 : lw_okq (⟨"FarewellStones$Givers", "handOn", "(I)V"⟩, 13) := ⟨⟨by decide +kernel, by decide +kernel⟩, List.mem_of_getElem? (i := 314) (by decide +kernel), List.mem_of_getElem? (i := 999) (by decide +kernel), List.mem_of_getElem? (i := 1000) (by decide +kernel)⟩
theorem lw_p45 : lw_okq (⟨"FarewellStones", "isWayOver", "(LFarewellStones$Bed;)Z"⟩, 16) := ⟨⟨by decide +kernel, by decide +kernel⟩, List.mem_of_getElem? (i := 22) (by decide +kernel), List.mem_of_getElem? (i := 1015) (by decide +kernel), List.mem_of_getElem? (i := 1016) (by decide +kernel)⟩
theorem lw_p46 : lw_okq (⟨"FarewellStones$Bed", "countOf", "(II)I"⟩, 7) := ⟨⟨by decide +kernel, by decide +kernel⟩, List.mem_of_getElem? (i := 208) (by decide +kernel), List.mem_of_getElem? (i := 1034) (by decide +kernel), List.mem_of_getElem? (i := 1035) (by decide +kernel)⟩
theorem lw_p47 : lw_okq (⟨"FarewellStones$Fords", "seek", "(LFarewellStones$River;[I)I"⟩, 5) := ⟨⟨by decide +kernel, by decide +kernel⟩, List.mem_of_getElem? (i := 292) (by decide +kernel), List.mem_of_getElem? (i := 1061) (by decide +kernel), List.mem_of_getElem? (i := 1062) (by decide +kernel)⟩
def lw_privs_3 : List (MethodName × Nat) := [(⟨"FarewellStones", "findLack", "()V"⟩, 16), (⟨"FarewellStones", "findGivers", "()Z"⟩, 16), (⟨"FarewellStones$Givers", "listNeeds", "(LFarewellStones$Ways;)V"⟩, 13), (⟨"FarewellStones$Givers", "give", "(I)Z"⟩, 13), (⟨"FarewellStones$Givers", "canGive", "(II)Z"⟩, 13), (⟨"FarewellStones$Givers", "spread", "(III)V"⟩, 13), (⟨"FarewellStones$Givers", "leastFree", "()I"⟩, 13), (⟨"FarewellStones$Givers", "isFree", "(I)Z"⟩, 13), (⟨"FarewellStones$Givers", "passOn", "(I)I"⟩, 13), (⟨"FarewellStones$Givers", "giveByFirst", "(I)V"⟩, 13), (⟨"FarewellStones$Givers", "giveInstead", "(III)Z"⟩, 13), (⟨"FarewellStones$Givers", "spreadBack", "(III)V"⟩, 13), (⟨"FarewellStones$Givers", "handOn", "(I)V"⟩, 13), (⟨"FarewellStones", "isWayOver", "(LFarewellStones$Bed;)Z"⟩, 16), (⟨"FarewellStones$Bed", "countOf", "(II)I"⟩, 7), (⟨"FarewellStones$Fords", "seek", "(LFarewellStones$River;[I)I"⟩, 5)]
theorem lw_r3 : ∀ q ∈ lw_privs_3, lw_okq q := List.forall_mem_cons.mpr ⟨lw_p32, List.forall_mem_cons.mpr ⟨lw_p33, List.forall_mem_cons.mpr ⟨lw_p34, List.forall_mem_cons.mpr ⟨lw_p35, List.forall_mem_cons.mpr ⟨lw_p36, List.forall_mem_cons.mpr ⟨lw_p37, List.forall_mem_cons.mpr ⟨lw_p38, List.forall_mem_cons.mpr ⟨lw_p39, List.forall_mem_cons.mpr ⟨lw_p40, List.forall_mem_cons.mpr ⟨lw_p41, List.forall_mem_cons.mpr ⟨lw_p42, List.forall_mem_cons.mpr ⟨lw_p43, List.forall_mem_cons.mpr ⟨lw_p44, List.forall_mem_cons.mpr ⟨lw_p45, List.forall_mem_cons.mpr ⟨lw_p46, List.forall_mem_cons.mpr ⟨lw_p47, fun _ h => absurd h List.not_mem_nil⟩⟩⟩⟩⟩⟩⟩⟩⟩⟩⟩⟩⟩⟩⟩⟩
theorem lw_p48 : lw_okq (⟨"FarewellStones$Fords", "reach", "(II)V"⟩, 5) := ⟨⟨by decide +kernel, by decide +kernel⟩, List.mem_of_getElem? (i := 292) (by decide +kernel), List.mem_of_getElem? (i := 1066) (by decide +kernel), List.mem_of_getElem? (i := 1067) (by decide +kernel)⟩
theorem lw_p49 : lw_okq (⟨"FarewellStones$Fords", "comeTo", "(I)V"⟩, 5) := ⟨⟨by decide +kernel, by decide +kernel⟩, List.mem_of_getElem? (i := 292) (by decide +kernel), List.mem_of_getElem? (i := 1070) (by decide +kernel), List.mem_of_getElem? (i := 1071) (by decide +kernel)⟩
theorem lw_p50 : lw_okq (⟨"FarewellStones$Fords", "goOnFrom", "(LFarewellStones$River;[II)V"⟩, 5) := ⟨⟨by decide +kernel, by decide +kernel⟩, List.mem_of_getElem? (i := 292) (by decide +kernel), List.mem_of_getElem? (i := 1075) (by decide +kernel), List.mem_of_getElem? (i := 1076) (by decide +kernel)⟩
theorem lw_p51 : lw_okq (⟨"FarewellStones$Fords", "addWay", "(I)V"⟩, 5) := ⟨⟨by decide +kernel, by decide +kernel⟩, List.mem_of_getElem? (i := 292) (by decide +kernel), List.mem_of_getElem? (i := 1081) (by decide +kernel), List.mem_of_getElem? (i := 1082) (by decide +kernel)⟩
theorem lw_p52 : lw_okq (⟨"FarewellStones$Fords", "leadInto", "(II)V"⟩, 5) := ⟨⟨by decide +kernel, by decide +kernel⟩, List.mem_of_getElem? (i := 292) (by decide +kernel), List.mem_of_getElem? (i := 1085) (by decide +kernel), List.mem_of_getElem? (i := 1086) (by decide +kernel)⟩
theorem lw_p53 : lw_okq (⟨"FarewellStones", "rowsWrongWithout", "(II)I"⟩, 16) := ⟨⟨by decide +kernel, by decide +kernel⟩, List.mem_of_getElem? (i := 22) (by decide +kernel), List.mem_of_getElem? (i := 1101) (by decide +kernel), List.mem_of_getElem? (i := 1102) (by decide +kernel)⟩
theorem lw_p54 : lw_okq (⟨"FarewellStones", "isKnownSo", "(II)Z"⟩, 16) := ⟨⟨by decide +kernel, by decide +kernel⟩, List.mem_of_getElem? (i := 22) (by decide +kernel), List.mem_of_getElem? (i := 1105) (by decide +kernel), List.mem_of_getElem? (i := 1106) (by decide +kernel)⟩
theorem lw_p55 : lw_okq (⟨"FarewellStones", "fitsAt", "(IIIII)Z"⟩, 16) := ⟨⟨by decide +kernel, by decide +kernel⟩, List.mem_of_getElem? (i := 22) (by decide +kernel), List.mem_of_getElem? (i := 1109) (by decide +kernel), List.mem_of_getElem? (i := 1110) (by decide +kernel)⟩
theorem lw_p56 : lw_okq (⟨"FarewellStones", "isKnownOf", "(II)Z"⟩, 16) := ⟨⟨by decide +kernel, by decide +kernel⟩, List.mem_of_getElem? (i := 22) (by decide +kernel), List.mem_of_getElem? (i := 1113) (by decide +kernel), List.mem_of_getElem? (i := 1114) (by decide +kernel)⟩
theorem lw_p57 : lw_okq (⟨"FarewellStonesModel", "plain", "(I)V"⟩, 81) := ⟨⟨by decide +kernel, by decide +kernel⟩, List.mem_of_getElem? (i := 1117) (by decide +kernel), List.mem_of_getElem? (i := 1123) (by decide +kernel), List.mem_of_getElem? (i := 1124) (by decide +kernel)⟩
theorem lw_p58 : lw_okq (⟨"FarewellStonesModel", "begins", "()V"⟩, 81) := ⟨⟨by decide +kernel, by decide +kernel⟩, List.mem_of_getElem? (i := 1117) (by decide +kernel), List.mem_of_getElem? (i := 1134) (by decide +kernel), List.mem_of_getElem? (i := 1135) (by decide +kernel)⟩
theorem lw_p59 : lw_okq (⟨"FarewellStonesModel", "put", "(I)V"⟩, 81) := ⟨⟨by decide +kernel, by decide +kernel⟩, List.mem_of_getElem? (i := 1117) (by decide +kernel), List.mem_of_getElem? (i := 1386) (by decide +kernel), List.mem_of_getElem? (i := 1387) (by decide +kernel)⟩
theorem lw_p60 : lw_okq (⟨"FarewellStonesModel", "cut", "()V"⟩, 81) := ⟨⟨by decide +kernel, by decide +kernel⟩, List.mem_of_getElem? (i := 1117) (by decide +kernel), List.mem_of_getElem? (i := 1398) (by decide +kernel), List.mem_of_getElem? (i := 1399) (by decide +kernel)⟩
theorem lw_p61 : lw_okq (⟨"FarewellStonesModel", "byteAt", "(I)I"⟩, 81) := ⟨⟨by decide +kernel, by decide +kernel⟩, List.mem_of_getElem? (i := 1117) (by decide +kernel), List.mem_of_getElem? (i := 1402) (by decide +kernel), List.mem_of_getElem? (i := 1403) (by decide +kernel)⟩
theorem lw_p62 : lw_okq (⟨"FarewellStonesModel", "token", "(IIIJ)V"⟩, 81) := ⟨⟨by decide +kernel, by decide +kernel⟩, List.mem_of_getElem? (i := 1117) (by decide +kernel), List.mem_of_getElem? (i := 1406) (by decide +kernel), List.mem_of_getElem? (i := 1407) (by decide +kernel)⟩
theorem lw_p63 : lw_okq (⟨"FarewellStonesModel", "sign", "(III)I"⟩, 81) := ⟨⟨by decide +kernel, by decide +kernel⟩, List.mem_of_getElem? (i := 1117) (by decide +kernel), List.mem_of_getElem? (i := 1416) (by decide +kernel), List.mem_of_getElem? (i := 1417) (by decide +kernel)⟩
def lw_privs_4 : List (MethodName × Nat) := [(⟨"FarewellStones$Fords", "reach", "(II)V"⟩, 5), (⟨"FarewellStones$Fords", "comeTo", "(I)V"⟩, 5), (⟨"FarewellStones$Fords", "goOnFrom", "(LFarewellStones$River;[II)V"⟩, 5), (⟨"FarewellStones$Fords", "addWay", "(I)V"⟩, 5), (⟨"FarewellStones$Fords", "leadInto", "(II)V"⟩, 5), (⟨"FarewellStones", "rowsWrongWithout", "(II)I"⟩, 16), (⟨"FarewellStones", "isKnownSo", "(II)Z"⟩, 16), (⟨"FarewellStones", "fitsAt", "(IIIII)Z"⟩, 16), (⟨"FarewellStones", "isKnownOf", "(II)Z"⟩, 16), (⟨"FarewellStonesModel", "plain", "(I)V"⟩, 81), (⟨"FarewellStonesModel", "begins", "()V"⟩, 81), (⟨"FarewellStonesModel", "put", "(I)V"⟩, 81), (⟨"FarewellStonesModel", "cut", "()V"⟩, 81), (⟨"FarewellStonesModel", "byteAt", "(I)I"⟩, 81), (⟨"FarewellStonesModel", "token", "(IIIJ)V"⟩, 81), (⟨"FarewellStonesModel", "sign", "(III)I"⟩, 81)]
theorem lw_r4 : ∀ q ∈ lw_privs_4, lw_okq q := List.forall_mem_cons.mpr ⟨lw_p48, List.forall_mem_cons.mpr ⟨lw_p49, List.forall_mem_cons.mpr ⟨lw_p50, List.forall_mem_cons.mpr ⟨lw_p51, List.forall_mem_cons.mpr ⟨lw_p52, List.forall_mem_cons.mpr ⟨lw_p53, List.forall_mem_cons.mpr ⟨lw_p54, List.forall_mem_cons.mpr ⟨lw_p55, List.forall_mem_cons.mpr ⟨lw_p56, List.forall_mem_cons.mpr ⟨lw_p57, List.forall_mem_cons.mpr ⟨lw_p58, List.forall_mem_cons.mpr ⟨lw_p59, List.forall_mem_cons.mpr ⟨lw_p60, List.forall_mem_cons.mpr ⟨lw_p61, List.forall_mem_cons.mpr ⟨lw_p62, List.forall_mem_cons.mpr ⟨lw_p63, fun _ h => absurd h List.not_mem_nil⟩⟩⟩⟩⟩⟩⟩⟩⟩⟩⟩⟩⟩⟩⟩⟩
theorem lw_p64 : lw_okq (⟨"FarewellStonesModel", "is", "(I)Z"⟩, 81) := ⟨⟨by decide +kernel, by decide +kernel⟩, List.mem_of_getElem? (i := 1117) (by decide +kernel), List.mem_of_getElem? (i := 1420) (by decide +kernel), List.mem_of_getElem? (i := 1421) (by decide +kernel)⟩
theorem lw_p65 : lw_okq (⟨"FarewellStonesModel", "tell", "()V"⟩, 81) := ⟨⟨by decide +kernel, by decide +kernel⟩, List.mem_of_getElem? (i := 1117) (by decide +kernel), List.mem_of_getElem? (i := 1424) (by decide +kernel), List.mem_of_getElem? (i := 1425) (by decide +kernel)⟩
theorem lw_p66 : lw_okq (⟨"FarewellStonesModel", "goesOn", "()V"⟩, 81) := ⟨⟨by decide +kernel, by decide +kernel⟩, List.mem_of_getElem? (i := 1117) (by decide +kernel), List.mem_of_getElem? (i := 1428) (by decide +kernel), List.mem_of_getElem? (i := 1429) (by decide +kernel)⟩
theorem lw_p67 : lw_okq (⟨"FarewellStonesModel", "fail", "(I)V"⟩, 81) := ⟨⟨by decide +kernel, by decide +kernel⟩, List.mem_of_getElem? (i := 1117) (by decide +kernel), List.mem_of_getElem? (i := 1432) (by decide +kernel), List.mem_of_getElem? (i := 1433) (by decide +kernel)⟩
theorem lw_p68 : lw_okq (⟨"FarewellStonesModel", "bounded", "(II)I"⟩, 81) := ⟨⟨by decide +kernel, by decide +kernel⟩, List.mem_of_getElem? (i := 1117) (by decide +kernel), List.mem_of_getElem? (i := 1436) (by decide +kernel), List.mem_of_getElem? (i := 1437) (by decide +kernel)⟩
theorem lw_p69 : lw_okq (⟨"FarewellStonesModel", "wrong", "(II)V"⟩, 81) := ⟨⟨by decide +kernel, by decide +kernel⟩, List.mem_of_getElem? (i := 1117) (by decide +kernel), List.mem_of_getElem? (i := 1440) (by decide +kernel), List.mem_of_getElem? (i := 1441) (by decide +kernel)⟩
theorem lw_p70 : lw_okq (⟨"FarewellStonesModel", "must", "(I)V"⟩, 81) := ⟨⟨by decide +kernel, by decide +kernel⟩, List.mem_of_getElem? (i := 1117) (by decide +kernel), List.mem_of_getElem? (i := 1444) (by decide +kernel), List.mem_of_getElem? (i := 1445) (by decide +kernel)⟩
theorem lw_p71 : lw_okq (⟨"FarewellStonesModel", "roomFor", "(II)V"⟩, 81) := ⟨⟨by decide +kernel, by decide +kernel⟩, List.mem_of_getElem? (i := 1117) (by decide +kernel), List.mem_of_getElem? (i := 1448) (by decide +kernel), List.mem_of_getElem? (i := 1449) (by decide +kernel)⟩
theorem lw_p72 : lw_okq (⟨"FarewellStonesModel", "tellDepth", "()V"⟩, 81) := ⟨⟨by decide +kernel, by decide +kernel⟩, List.mem_of_getElem? (i := 1117) (by decide +kernel), List.mem_of_getElem? (i := 1452) (by decide +kernel), List.mem_of_getElem? (i := 1453) (by decide +kernel)⟩
theorem lw_p73 : lw_okq (⟨"FarewellStonesModel", "tellLeaver", "()V"⟩, 81) := ⟨⟨by decide +kernel, by decide +kernel⟩, List.mem_of_getElem? (i := 1117) (by decide +kernel), List.mem_of_getElem? (i := 1456) (by decide +kernel), List.mem_of_getElem? (i := 1457) (by decide +kernel)⟩
theorem lw_p74 : lw_okq (⟨"FarewellStonesModel", "tellFlood", "()V"⟩, 81) := ⟨⟨by decide +kernel, by decide +kernel⟩, List.mem_of_getElem? (i := 1117) (by decide +kernel), List.mem_of_getElem? (i := 1460) (by decide +kernel), List.mem_of_getElem? (i := 1461) (by decide +kernel)⟩
theorem lw_p75 : lw_okq (⟨"FarewellStonesModel", "tellLaw", "(I)V"⟩, 81) := ⟨⟨by decide +kernel, by decide +kernel⟩, List.mem_of_getElem? (i := 1117) (by decide +kernel), List.mem_of_getElem? (i := 1464) (by decide +kernel), List.mem_of_getElem? (i := 1465) (by decide +kernel)⟩
theorem lw_p76 : lw_okq (⟨"FarewellStonesModel", "expression", "()V"⟩, 81) := ⟨⟨by decide +kernel, by decide +kernel⟩, List.mem_of_getElem? (i := 1117) (by decide +kernel), List.mem_of_getElem? (i := 1468) (by decide +kernel), List.mem_of_getElem? (i := 1469) (by decide +kernel)⟩
theorem lw_p77 : lw_okq (⟨"FarewellStonesModel", "unit", "()V"⟩, 81) := ⟨⟨by decide +kernel, by decide +kernel⟩, List.mem_of_getElem? (i := 1117) (by decide +kernel), List.mem_of_getElem? (i := 1472) (by decide +kernel), List.mem_of_getElem? (i := 1473) (by decide +kernel)⟩
theorem lw_p78 : lw_okq (⟨"FarewellStonesModel", "emit", "(II)V"⟩, 81) := ⟨⟨by decide +kernel, by decide +kernel⟩, List.mem_of_getElem? (i := 1117) (by decide +kernel), List.mem_of_getElem? (i := 1476) (by decide +kernel), List.mem_of_getElem? (i := 1477) (by decide +kernel)⟩
theorem lw_p79 : lw_okq (⟨"FarewellStonesModel", "comesOut", "(Z)V"⟩, 81) := ⟨⟨by decide +kernel, by decide +kernel⟩, List.mem_of_getElem? (i := 1117) (by decide +kernel), List.mem_of_getElem? (i := 1480) (by decide +kernel), List.mem_of_getElem? (i := 1481) (by decide +kernel)⟩
def lw_privs_5 : List (MethodName × Nat) := [(⟨"FarewellStonesModel", "is", "(I)Z"⟩, 81), (⟨"FarewellStonesModel", "tell", "()V"⟩, 81), (⟨"FarewellStonesModel", "goesOn", "()V"⟩, 81), (⟨"FarewellStonesModel", "fail", "(I)V"⟩, 81), (⟨"FarewellStonesModel", "bounded", "(II)I"⟩, 81), (⟨"FarewellStonesModel", "wrong", "(II)V"⟩, 81), (⟨"FarewellStonesModel", "must", "(I)V"⟩, 81), (⟨"FarewellStonesModel", "roomFor", "(II)V"⟩, 81), (⟨"FarewellStonesModel", "tellDepth", "()V"⟩, 81), (⟨"FarewellStonesModel", "tellLeaver", "()V"⟩, 81), (⟨"FarewellStonesModel", "tellFlood", "()V"⟩, 81), (⟨"FarewellStonesModel", "tellLaw", "(I)V"⟩, 81), (⟨"FarewellStonesModel", "expression", "()V"⟩, 81), (⟨"FarewellStonesModel", "unit", "()V"⟩, 81), (⟨"FarewellStonesModel", "emit", "(II)V"⟩, 81), (⟨"FarewellStonesModel", "comesOut", "(Z)V"⟩, 81)]
theorem lw_r5 : ∀ q ∈ lw_privs_5, lw_okq q := List.forall_mem_cons.mpr ⟨lw_p64, List.forall_mem_cons.mpr ⟨lw_p65, List.forall_mem_cons.mpr ⟨lw_p66, List.forall_mem_cons.mpr ⟨lw_p67, List.forall_mem_cons.mpr ⟨lw_p68, List.forall_mem_cons.mpr ⟨lw_p69, List.forall_mem_cons.mpr ⟨lw_p70, List.forall_mem_cons.mpr ⟨lw_p71, List.forall_mem_cons.mpr ⟨lw_p72, List.forall_mem_cons.mpr ⟨lw_p73, List.forall_mem_cons.mpr ⟨lw_p74, List.forall_mem_cons.mpr ⟨lw_p75, List.forall_mem_cons.mpr ⟨lw_p76, List.forall_mem_cons.mpr ⟨lw_p77, List.forall_mem_cons.mpr ⟨lw_p78, List.forall_mem_cons.mpr ⟨lw_p79, fun _ h => absurd h List.not_mem_nil⟩⟩⟩⟩⟩⟩⟩⟩⟩⟩⟩⟩⟩⟩⟩⟩
theorem lw_p80 : lw_okq (⟨"FarewellStonesModel", "term", "()V"⟩, 81) := ⟨⟨by decide +kernel, by decide +kernel⟩, List.mem_of_getElem? (i := 1117) (by decide +kernel), List.mem_of_getElem? (i := 1484) (by decide +kernel), List.mem_of_getElem? (i := 1485) (by decide +kernel)⟩
theorem lw_p81 : lw_okq (⟨"FarewellStonesModel", "isCell", "(II)Z"⟩, 81) := ⟨⟨by decide +kernel, by decide +kernel⟩, List.mem_of_getElem? (i := 1117) (by decide +kernel), List.mem_of_getElem? (i := 1496) (by decide +kernel), List.mem_of_getElem? (i := 1497) (by decide +kernel)⟩
theorem lw_p82 : lw_okq (⟨"FarewellStonesModel", "copies", "()V"⟩, 81) := ⟨⟨by decide +kernel, by decide +kernel⟩, List.mem_of_getElem? (i := 1117) (by decide +kernel), List.mem_of_getElem? (i := 1503) (by decide +kernel), List.mem_of_getElem? (i := 1504) (by decide +kernel)⟩
theorem lw_p83 : lw_okq (⟨"FarewellStonesModel", "counts", "()V"⟩, 81) := ⟨⟨by decide +kernel, by decide +kernel⟩, List.mem_of_getElem? (i := 1117) (by decide +kernel), List.mem_of_getElem? (i := 1507) (by decide +kernel), List.mem_of_getElem? (i := 1508) (by decide +kernel)⟩
theorem lw_p84 : lw_okq (⟨"FarewellStonesModel", "deep", "(I)I"⟩, 81) := ⟨⟨by decide +kernel, by decide +kernel⟩, List.mem_of_getElem? (i := 1117) (by decide +kernel), List.mem_of_getElem? (i := 1511) (by decide +kernel), List.mem_of_getElem? (i := 1512) (by decide +kernel)⟩
theorem lw_p85 : lw_okq (⟨"FarewellStonesModel", "isStep", "(I)Z"⟩, 81) := ⟨⟨by decide +kernel, by decide +kernel⟩, List.mem_of_getElem? (i := 1117) (by decide +kernel), List.mem_of_getElem? (i := 1515) (by decide +kernel), List.mem_of_getElem? (i := 1516) (by decide +kernel)⟩
theorem lw_p86 : lw_okq (⟨"FarewellStonesModel", "tellsBy", "(IIII)I"⟩, 81) := ⟨⟨by decide +kernel, by decide +kernel⟩, List.mem_of_getElem? (i := 1117) (by decide +kernel), List.mem_of_getElem? (i := 1519) (by decide +kernel), List.mem_of_getElem? (i := 1520) (by decide +kernel)⟩
theorem lw_p87 : lw_okq (⟨"FarewellStonesModel", "termOf", "(II)I"⟩, 81) := ⟨⟨by decide +kernel, by decide +kernel⟩, List.mem_of_getElem? (i := 1117) (by decide +kernel), List.mem_of_getElem? (i := 1523) (by decide +kernel), List.mem_of_getElem? (i := 1524) (by decide +kernel)⟩
theorem lw_p88 : lw_okq (⟨"FarewellStonesModel", "ownerAt", "(II)I"⟩, 81) := ⟨⟨by decide +kernel, by decide +kernel⟩, List.mem_of_getElem? (i := 1117) (by decide +kernel), List.mem_of_getElem? (i := 1527) (by decide +kernel), List.mem_of_getElem? (i := 1528) (by decide +kernel)⟩
theorem lw_p89 : lw_okq (⟨"FarewellStonesModel", "isLeaver", "(I)Z"⟩, 81) := ⟨⟨by decide +kernel, by decide +kernel⟩, List.mem_of_getElem? (i := 1117) (by decide +kernel), List.mem_of_getElem? (i := 1539) (by decide +kernel), List.mem_of_getElem? (i := 1540) (by decide +kernel)⟩
theorem lw_p90 : lw_okq (⟨"FarewellStonesModel", "leftOf", "(I)I"⟩, 81) := ⟨⟨by decide +kernel, by decide +kernel⟩, List.mem_of_getElem? (i := 1117) (by decide +kernel), List.mem_of_getElem? (i := 1543) (by decide +kernel), List.mem_of_getElem? (i := 1544) (by decide +kernel)⟩
theorem lw_p91 : lw_okq (⟨"FarewellStonesModel", "mayThrow", "(I)Z"⟩, 81) := ⟨⟨by decide +kernel, by decide +kernel⟩, List.mem_of_getElem? (i := 1117) (by decide +kernel), List.mem_of_getElem? (i := 1547) (by decide +kernel), List.mem_of_getElem? (i := 1548) (by decide +kernel)⟩
theorem lw_p92 : lw_okq (⟨"FarewellStonesModel", "canThrow", "(I)Z"⟩, 81) := ⟨⟨by decide +kernel, by decide +kernel⟩, List.mem_of_getElem? (i := 1117) (by decide +kernel), List.mem_of_getElem? (i := 1555) (by decide +kernel), List.mem_of_getElem? (i := 1556) (by decide +kernel)⟩
theorem lw_p93 : lw_okq (⟨"FarewellStonesModel", "throwsAt", "(III)I"⟩, 81) := ⟨⟨by decide +kernel, by decide +kernel⟩, List.mem_of_getElem? (i := 1117) (by decide +kernel), List.mem_of_getElem? (i := 1559) (by decide +kernel), List.mem_of_getElem? (i := 1560) (by decide +kernel)⟩
theorem lw_p94 : lw_okq (⟨"FarewellStonesModel", "driftOf", "(II)I"⟩, 81) := ⟨⟨by decide +kernel, by decide +kernel⟩, List.mem_of_getElem? (i := 1117) (by decide +kernel), List.mem_of_getElem? (i := 1563) (by decide +kernel), List.mem_of_getElem? (i := 1564) (by decide +kernel)⟩
theorem lw_p95 : lw_okq (⟨"FarewellStonesModel", "keeps", "()V"⟩, 81) := ⟨⟨by decide +kernel, by decide +kernel⟩, List.mem_of_getElem? (i := 1117) (by decide +kernel), List.mem_of_getElem? (i := 1567) (by decide +kernel), List.mem_of_getElem? (i := 1568) (by decide +kernel)⟩
def lw_privs_6 : List (MethodName × Nat) := [(⟨"FarewellStonesModel", "term", "()V"⟩, 81), (⟨"FarewellStonesModel", "isCell", "(II)Z"⟩, 81), (⟨"FarewellStonesModel", "copies", "()V"⟩, 81), (⟨"FarewellStonesModel", "counts", "()V"⟩, 81), (⟨"FarewellStonesModel", "deep", "(I)I"⟩, 81), (⟨"FarewellStonesModel", "isStep", "(I)Z"⟩, 81), (⟨"FarewellStonesModel", "tellsBy", "(IIII)I"⟩, 81), (⟨"FarewellStonesModel", "termOf", "(II)I"⟩, 81), (⟨"FarewellStonesModel", "ownerAt", "(II)I"⟩, 81), (⟨"FarewellStonesModel", "isLeaver", "(I)Z"⟩, 81), (⟨"FarewellStonesModel", "leftOf", "(I)I"⟩, 81), (⟨"FarewellStonesModel", "mayThrow", "(I)Z"⟩, 81), (⟨"FarewellStonesModel", "canThrow", "(I)Z"⟩, 81), (⟨"FarewellStonesModel", "throwsAt", "(III)I"⟩, 81), (⟨"FarewellStonesModel", "driftOf", "(II)I"⟩, 81), (⟨"FarewellStonesModel", "keeps", "()V"⟩, 81)]
theorem lw_r6 : ∀ q ∈ lw_privs_6, lw_okq q := List.forall_mem_cons.mpr ⟨lw_p80, List.forall_mem_cons.mpr ⟨lw_p81, List.forall_mem_cons.mpr ⟨lw_p82, List.forall_mem_cons.mpr ⟨lw_p83, List.forall_mem_cons.mpr ⟨lw_p84, List.forall_mem_cons.mpr ⟨lw_p85, List.forall_mem_cons.mpr ⟨lw_p86, List.forall_mem_cons.mpr ⟨lw_p87, List.forall_mem_cons.mpr ⟨lw_p88, List.forall_mem_cons.mpr ⟨lw_p89, List.forall_mem_cons.mpr ⟨lw_p90, List.forall_mem_cons.mpr ⟨lw_p91, List.forall_mem_cons.mpr ⟨lw_p92, List.forall_mem_cons.mpr ⟨lw_p93, List.forall_mem_cons.mpr ⟨lw_p94, List.forall_mem_cons.mpr ⟨lw_p95, fun _ h => absurd h List.not_mem_nil⟩⟩⟩⟩⟩⟩⟩⟩⟩⟩⟩⟩⟩⟩⟩⟩
theorem lw_p96 : lw_okq (⟨"FarewellStonesModel", "dayGoes", "()V"⟩, 81) := ⟨⟨by decide +kernel, by decide +kernel⟩, List.mem_of_getElem? (i := 1117) (by decide +kernel), List.mem_of_getElem? (i := 1575) (by decide +kernel), List.mem_of_getElem? (i := 1576) (by decide +kernel)⟩
theorem lw_p97 : lw_okq (⟨"FarewellStonesModel", "carries", "(III)V"⟩, 81) := ⟨⟨by decide +kernel, by decide +kernel⟩, List.mem_of_getElem? (i := 1117) (by decide +kernel), List.mem_of_getElem? (i := 1579) (by decide +kernel), List.mem_of_getElem? (i := 1580) (by decide +kernel)⟩
theorem lw_p98 : lw_okq (⟨"FarewellStonesModel", "findsOver", "(I)Z"⟩, 81) := ⟨⟨by decide +kernel, by decide +kernel⟩, List.mem_of_getElem? (i := 1117) (by decide +kernel), List.mem_of_getElem? (i := 1591) (by decide +kernel), List.mem_of_getElem? (i := 1592) (by decide +kernel)⟩
theorem lw_p99 : lw_okq (⟨"FarewellStonesModel", "fillsWays", "(I)V"⟩, 81) := ⟨⟨by decide +kernel, by decide +kernel⟩, List.mem_of_getElem? (i := 1117) (by decide +kernel), List.mem_of_getElem? (i := 1596) (by decide +kernel), List.mem_of_getElem? (i := 1597) (by decide +kernel)⟩
theorem lw_p100 : lw_okq (⟨"FarewellStonesModel", "ends", "(I)Z"⟩, 81) := ⟨⟨by decide +kernel, by decide +kernel⟩, List.mem_of_getElem? (i := 1117) (by decide +kernel), List.mem_of_getElem? (i := 1601) (by decide +kernel), List.mem_of_getElem? (i := 1602) (by decide +kernel)⟩
theorem lw_p101 : lw_okq (⟨"FarewellStonesModel", "leaps", "(II)Z"⟩, 81) := ⟨⟨by decide +kernel, by decide +kernel⟩, List.mem_of_getElem? (i := 1117) (by decide +kernel), List.mem_of_getElem? (i := 1605) (by decide +kernel), List.mem_of_getElem? (i := 1606) (by decide +kernel)⟩
theorem lw_p102 : lw_okq (⟨"FarewellStonesModel", "fillsLine", "(I)V"⟩, 81) := ⟨⟨by decide +kernel, by decide +kernel⟩, List.mem_of_getElem? (i := 1117) (by decide +kernel), List.mem_of_getElem? (i := 1609) (by decide +kernel), List.mem_of_getElem? (i := 1610) (by decide +kernel)⟩
theorem lw_p103 : lw_okq (⟨"FarewellStonesModel", "findsLack", "()V"⟩, 81) := ⟨⟨by decide +kernel, by decide +kernel⟩, List.mem_of_getElem? (i := 1117) (by decide +kernel), List.mem_of_getElem? (i := 1621) (by decide +kernel), List.mem_of_getElem? (i := 1622) (by decide +kernel)⟩
theorem lw_p104 : lw_okq (⟨"FarewellStonesModel", "findsGivers", "()Z"⟩, 81) := ⟨⟨by decide +kernel, by decide +kernel⟩, List.mem_of_getElem? (i := 1117) (by decide +kernel), List.mem_of_getElem? (i := 1633) (by decide +kernel), List.mem_of_getElem? (i := 1634) (by decide +kernel)⟩
theorem lw_p105 : lw_okq (⟨"FarewellStonesModel", "fillsWants", "()V"⟩, 81) := ⟨⟨by decide +kernel, by decide +kernel⟩, List.mem_of_getElem? (i := 1117) (by decide +kernel), List.mem_of_getElem? (i := 1637) (by decide +kernel), List.mem_of_getElem? (i := 1638) (by decide +kernel)⟩
theorem lw_p106 : lw_okq (⟨"FarewellStonesModel", "leastSize", "(I)I"⟩, 81) := ⟨⟨by decide +kernel, by decide +kernel⟩, List.mem_of_getElem? (i := 1117) (by decide +kernel), List.mem_of_getElem? (i := 1641) (by decide +kernel), List.mem_of_getElem? (i := 1642) (by decide +kernel)⟩
theorem lw_p107 : lw_okq (⟨"FarewellStonesModel", "leastGrief", "(I)I"⟩, 81) := ⟨⟨by decide +kernel, by decide +kernel⟩, List.mem_of_getElem? (i := 1117) (by decide +kernel), List.mem_of_getElem? (i := 1645) (by decide +kernel), List.mem_of_getElem? (i := 1646) (by decide +kernel)⟩
theorem lw_p108 : lw_okq (⟨"FarewellStonesModel", "isFit", "(I)Z"⟩, 81) := ⟨⟨by decide +kernel, by decide +kernel⟩, List.mem_of_getElem? (i := 1117) (by decide +kernel), List.mem_of_getElem? (i := 1649) (by decide +kernel), List.mem_of_getElem? (i := 1650) (by decide +kernel)⟩
theorem lw_p109 : lw_okq (⟨"FarewellStonesModel", "isOverBy", "(I)Z"⟩, 81) := ⟨⟨by decide +kernel, by decide +kernel⟩, List.mem_of_getElem? (i := 1117) (by decide +kernel), List.mem_of_getElem? (i := 1661) (by decide +kernel), List.mem_of_getElem? (i := 1662) (by decide +kernel)⟩
theorem lw_p110 : lw_okq (⟨"FarewellStonesModel", "isOver", "()Z"⟩, 81) := ⟨⟨by decide +kernel, by decide +kernel⟩, List.mem_of_getElem? (i := 1117) (by decide +kernel), List.mem_of_getElem? (i := 1665) (by decide +kernel), List.mem_of_getElem? (i := 1666) (by decide +kernel)⟩
theorem lw_p111 : lw_okq (⟨"FarewellStonesModel", "oneMore", "()Z"⟩, 81) := ⟨⟨by decide +kernel, by decide +kernel⟩, List.mem_of_getElem? (i := 1117) (by decide +kernel), List.mem_of_getElem? (i := 1681) (by decide +kernel), List.mem_of_getElem? (i := 1682) (by decide +kernel)⟩
def lw_privs_7 : List (MethodName × Nat) := [(⟨"FarewellStonesModel", "dayGoes", "()V"⟩, 81), (⟨"FarewellStonesModel", "carries", "(III)V"⟩, 81), (⟨"FarewellStonesModel", "findsOver", "(I)Z"⟩, 81), (⟨"FarewellStonesModel", "fillsWays", "(I)V"⟩, 81), (⟨"FarewellStonesModel", "ends", "(I)Z"⟩, 81), (⟨"FarewellStonesModel", "leaps", "(II)Z"⟩, 81), (⟨"FarewellStonesModel", "fillsLine", "(I)V"⟩, 81), (⟨"FarewellStonesModel", "findsLack", "()V"⟩, 81), (⟨"FarewellStonesModel", "findsGivers", "()Z"⟩, 81), (⟨"FarewellStonesModel", "fillsWants", "()V"⟩, 81), (⟨"FarewellStonesModel", "leastSize", "(I)I"⟩, 81), (⟨"FarewellStonesModel", "leastGrief", "(I)I"⟩, 81), (⟨"FarewellStonesModel", "isFit", "(I)Z"⟩, 81), (⟨"FarewellStonesModel", "isOverBy", "(I)Z"⟩, 81), (⟨"FarewellStonesModel", "isOver", "()Z"⟩, 81), (⟨"FarewellStonesModel", "oneMore", "()Z"⟩, 81)]
theorem lw_r7 : ∀ q ∈ lw_privs_7, lw_okq q := List.forall_mem_cons.mpr ⟨lw_p96, List.forall_mem_cons.mpr ⟨lw_p97, List.forall_mem_cons.mpr ⟨lw_p98, List.forall_mem_cons.mpr ⟨lw_p99, List.forall_mem_cons.mpr ⟨lw_p100, List.forall_mem_cons.mpr ⟨lw_p101, List.forall_mem_cons.mpr ⟨lw_p102, List.forall_mem_cons.mpr ⟨lw_p103, List.forall_mem_cons.mpr ⟨lw_p104, List.forall_mem_cons.mpr ⟨lw_p105, List.forall_mem_cons.mpr ⟨lw_p106, List.forall_mem_cons.mpr ⟨lw_p107, List.forall_mem_cons.mpr ⟨lw_p108, List.forall_mem_cons.mpr ⟨lw_p109, List.forall_mem_cons.mpr ⟨lw_p110, List.forall_mem_cons.mpr ⟨lw_p111, fun _ h => absurd h List.not_mem_nil⟩⟩⟩⟩⟩⟩⟩⟩⟩⟩⟩⟩⟩⟩⟩⟩
theorem lw_p112 : lw_okq (⟨"FarewellStonesModel", "finds", "(II)V"⟩, 81) := ⟨⟨by decide +kernel, by decide +kernel⟩, List.mem_of_getElem? (i := 1117) (by decide +kernel), List.mem_of_getElem? (i := 1685) (by decide +kernel), List.mem_of_getElem? (i := 1686) (by decide +kernel)⟩
theorem lw_p113 : lw_okq (⟨"FarewellStonesModel", "findsIn", "(I)V"⟩, 81) := ⟨⟨by decide +kernel, by decide +kernel⟩, List.mem_of_getElem? (i := 1117) (by decide +kernel), List.mem_of_getElem? (i := 1689) (by decide +kernel), List.mem_of_getElem? (i := 1690) (by decide +kernel)⟩
theorem lw_p114 : lw_okq (⟨"FarewellStonesModel", "turns", "(I)V"⟩, 81) := ⟨⟨by decide +kernel, by decide +kernel⟩, List.mem_of_getElem? (i := 1117) (by decide +kernel), List.mem_of_getElem? (i := 1693) (by decide +kernel), List.mem_of_getElem? (i := 1694) (by decide +kernel)⟩
theorem lw_p115 : lw_okq (⟨"FarewellStonesModel", "findsOut", "(I)V"⟩, 81) := ⟨⟨by decide +kernel, by decide +kernel⟩, List.mem_of_getElem? (i := 1117) (by decide +kernel), List.mem_of_getElem? (i := 1697) (by decide +kernel), List.mem_of_getElem? (i := 1698) (by decide +kernel)⟩
theorem lw_p116 : lw_okq (⟨"FarewellStonesModel", "isSo", "(IIIII)Z"⟩, 81) := ⟨⟨by decide +kernel, by decide +kernel⟩, List.mem_of_getElem? (i := 1117) (by decide +kernel), List.mem_of_getElem? (i := 1713) (by decide +kernel), List.mem_of_getElem? (i := 1714) (by decide +kernel)⟩
def lw_privs_8 : List (MethodName × Nat) := [(⟨"FarewellStonesModel", "finds", "(II)V"⟩, 81), (⟨"FarewellStonesModel", "findsIn", "(I)V"⟩, 81), (⟨"FarewellStonesModel", "turns", "(I)V"⟩, 81), (⟨"FarewellStonesModel", "findsOut", "(I)V"⟩, 81), (⟨"FarewellStonesModel", "isSo", "(IIIII)Z"⟩, 81)]
theorem lw_r8 : ∀ q ∈ lw_privs_8, lw_okq q := List.forall_mem_cons.mpr ⟨lw_p112, List.forall_mem_cons.mpr ⟨lw_p113, List.forall_mem_cons.mpr ⟨lw_p114, List.forall_mem_cons.mpr ⟨lw_p115, List.forall_mem_cons.mpr ⟨lw_p116, fun _ h => absurd h List.not_mem_nil⟩⟩⟩⟩⟩
def lw_privs : List (MethodName × Nat) := lw_privs_1 ++ (lw_privs_2 ++ (lw_privs_3 ++ (lw_privs_4 ++ (lw_privs_5 ++ (lw_privs_6 ++ (lw_privs_7 ++ (lw_privs_8)))))))
def lw_tbl : List Cond := k2_sels lw_privs ++ tables_1
theorem lw_privs_ok : ∀ q ∈ lw_privs, lw_okq q := by
  show ∀ q ∈ lw_privs_1 ++ (lw_privs_2 ++ (lw_privs_3 ++ (lw_privs_4 ++ (lw_privs_5 ++ (lw_privs_6 ++ (lw_privs_7 ++ (lw_privs_8))))))), lw_okq q
  exact List.forall_mem_append.mpr ⟨lw_r1, List.forall_mem_append.mpr ⟨lw_r2, List.forall_mem_append.mpr ⟨lw_r3, List.forall_mem_append.mpr ⟨lw_r4, List.forall_mem_append.mpr ⟨lw_r5, List.forall_mem_append.mpr ⟨lw_r6, List.forall_mem_append.mpr ⟨lw_r7, lw_r8⟩⟩⟩⟩⟩⟩⟩
def RX0 : String := "FarewellStones$Bed"
def TX0 : u_T := fun k => match k with
  | 0 => ("FarewellStones$Bed", "day", "I", false)
  | 1 => ("FarewellStones$Bed", "heights", "[I", true)
  | 2 => ("FarewellStones$Bed", "tops", "[I", true)
  | 3 => ("FarewellStones$Bed", "mossSince", "[I", true)
  | 4 => ("FarewellStones$Bed", "under", "[I", true)
  | 5 => ("FarewellStones$Bed", "thrown", "[I", true)
  | _ => ("FarewellStones$Bed", "lost", "[I", true)
def tyX0 : Nat → FieldType := fun k => match k with
  | 0 => .int
  | 1 => .array .int
  | 2 => .array .int
  | 3 => .array .int
  | 4 => .array .int
  | 5 => .array .int
  | _ => .array .int
abbrev wsX00 : List Cond := u_ws RX0 TX0 7
theorem nmX0 : ∀ a, a < 7 → ∀ b, b < 7 → a ≠ b → (TX0 a).2.1 ≠ (TX0 b).2.1 := by decide +kernel
theorem tyX0_ok : ∀ k, k < 7 → parseFieldDescriptor (TX0 k).2.2.1 = some (tyX0 k) := by decide +kernel
abbrev cX0_init : ByteArray := prog_2_method_1_code
def yX0_init : MethodName := ⟨RX0, "<init>", "()V"⟩
abbrev cX0_clear : ByteArray := prog_2_method_2_code
def yX0_clear : MethodName := ⟨RX0, "clear", "()V"⟩
abbrev cX0_copyFrom : ByteArray := prog_2_method_3_code
def yX0_copyFrom : MethodName := ⟨RX0, "copyFrom", "(LFarewellStones$Bed;)V"⟩
abbrev cX0_left : ByteArray := prog_2_method_4_code
def yX0_left : MethodName := ⟨RX0, "left", "(LFarewellStones$River;I)I"⟩
abbrev cX0_mayThrow : ByteArray := prog_2_method_5_code
def yX0_mayThrow : MethodName := ⟨RX0, "mayThrow", "(LFarewellStones$River;I)Z"⟩
abbrev cX0_throwStone : ByteArray := prog_2_method_6_code
def yX0_throwStone : MethodName := ⟨RX0, "throwStone", "(LFarewellStones$River;III)I"⟩
abbrev cX0_passDays : ByteArray := prog_2_method_7_code
def yX0_passDays : MethodName := ⟨RX0, "passDays", "(LFarewellStones$River;III)V"⟩
abbrev cX0_passDay : ByteArray := prog_2_method_8_code
def yX0_passDay : MethodName := ⟨RX0, "passDay", "(LFarewellStones$River;II)Z"⟩
abbrev cX0_floodRow : ByteArray := prog_2_method_9_code
def yX0_floodRow : MethodName := ⟨RX0, "floodRow", "(LFarewellStones$River;II)V"⟩
abbrev cX0_carryOff : ByteArray := prog_2_method_10_code
def yX0_carryOff : MethodName := ⟨RX0, "carryOff", "(III)V"⟩
abbrev cX0_layOn : ByteArray := prog_2_method_11_code
def yX0_layOn : MethodName := ⟨RX0, "layOn", "(IIIII)V"⟩
abbrev cX0_lose : ByteArray := prog_2_method_12_code
def yX0_lose : MethodName := ⟨RX0, "lose", "(II)V"⟩
abbrev cX0_mossAt : ByteArray := prog_2_method_13_code
def yX0_mossAt : MethodName := ⟨RX0, "mossAt", "(I)I"⟩
abbrev cX0_mossOn : ByteArray := prog_2_method_14_code
def yX0_mossOn : MethodName := ⟨RX0, "mossOn", "(II)I"⟩
abbrev cX0_isStep : ByteArray := prog_2_method_15_code
def yX0_isStep : MethodName := ⟨RX0, "isStep", "(LFarewellStones$River;I)Z"⟩
abbrev cX0_slippery : ByteArray := prog_2_method_16_code
def yX0_slippery : MethodName := ⟨RX0, "slippery", "(LFarewellStones$River;I)I"⟩
abbrev cX0_ownerAt : ByteArray := prog_2_method_17_code
def yX0_ownerAt : MethodName := ⟨RX0, "ownerAt", "(II)I"⟩
abbrev cX0_countOf : ByteArray := prog_2_method_18_code
def yX0_countOf : MethodName := ⟨RX0, "countOf", "(II)I"⟩
abbrev cX0_countLying : ByteArray := prog_2_method_19_code
def yX0_countLying : MethodName := ⟨RX0, "countLying", "()I"⟩
abbrev cX0_countLost : ByteArray := prog_2_method_20_code
def yX0_countLost : MethodName := ⟨RX0, "countLost", "()I"⟩
abbrev cX0_countSteps : ByteArray := prog_2_method_21_code
def yX0_countSteps : MethodName := ⟨RX0, "countSteps", "(LFarewellStones$River;)I"⟩
abbrev cX0_weighSlippery : ByteArray := prog_2_method_22_code
def yX0_weighSlippery : MethodName := ⟨RX0, "weighSlippery", "(LFarewellStones$River;[I)V"⟩
abbrev cX0_weighLack : ByteArray := prog_2_method_23_code
def yX0_weighLack : MethodName := ⟨RX0, "weighLack", "(LFarewellStones$River;[I)V"⟩
abbrev cX0_weighSteps : ByteArray := prog_2_method_24_code
def yX0_weighSteps : MethodName := ⟨RX0, "weighSteps", "(LFarewellStones$River;[I)V"⟩
abbrev cX0_weighWithout : ByteArray := prog_2_method_25_code
def yX0_weighWithout : MethodName := ⟨RX0, "weighWithout", "(LFarewellStones$River;I[I)V"⟩
abbrev cX0_weighAlone : ByteArray := prog_2_method_26_code
def yX0_weighAlone : MethodName := ⟨RX0, "weighAlone", "(LFarewellStones$River;I[I)V"⟩
abbrev cX0_weighHeight : ByteArray := prog_2_method_27_code
def yX0_weighHeight : MethodName := ⟨RX0, "weighHeight", "(LFarewellStones$River;II[I)V"⟩
def RX1 : String := "FarewellStones$Fords"
def TX1 : u_T := fun k => match k with
  | 0 => ("FarewellStones$Fords", "comesFrom", "[I", true)
  | 1 => ("FarewellStones$Fords", "goesTo", "[I", true)
  | 2 => ("FarewellStones$Fords", "reachedFrom", "[I", true)
  | 3 => ("FarewellStones$Fords", "queue", "[I", true)
  | _ => ("FarewellStones$Fords", "tail", "I", false)
def tyX1 : Nat → FieldType := fun k => match k with
  | 0 => .array .int
  | 1 => .array .int
  | 2 => .array .int
  | 3 => .array .int
  | _ => .int
abbrev wsX10 : List Cond := u_ws RX1 TX1 5
theorem nmX1 : ∀ a, a < 5 → ∀ b, b < 5 → a ≠ b → (TX1 a).2.1 ≠ (TX1 b).2.1 := by decide +kernel
theorem tyX1_ok : ∀ k, k < 5 → parseFieldDescriptor (TX1 k).2.2.1 = some (tyX1 k) := by decide +kernel
abbrev cX1_init : ByteArray := prog_3_method_1_code
def yX1_init : MethodName := ⟨RX1, "<init>", "()V"⟩
abbrev cX1_most : ByteArray := prog_3_method_2_code
def yX1_most : MethodName := ⟨RX1, "most", "(LFarewellStones$River;[I)I"⟩
abbrev cX1_seek : ByteArray := prog_3_method_3_code
def yX1_seek : MethodName := ⟨RX1, "seek", "(LFarewellStones$River;[I)I"⟩
abbrev cX1_comeTo : ByteArray := prog_3_method_4_code
def yX1_comeTo : MethodName := ⟨RX1, "comeTo", "(I)V"⟩
abbrev cX1_goOnFrom : ByteArray := prog_3_method_5_code
def yX1_goOnFrom : MethodName := ⟨RX1, "goOnFrom", "(LFarewellStones$River;[II)V"⟩
abbrev cX1_reach : ByteArray := prog_3_method_6_code
def yX1_reach : MethodName := ⟨RX1, "reach", "(II)V"⟩
abbrev cX1_addWay : ByteArray := prog_3_method_7_code
def yX1_addWay : MethodName := ⟨RX1, "addWay", "(I)V"⟩
abbrev cX1_leadInto : ByteArray := prog_3_method_8_code
def yX1_leadInto : MethodName := ⟨RX1, "leadInto", "(II)V"⟩
def RX2 : String := "FarewellStones$Givers"
def TX2 : u_T := fun k => match k with
  | 0 => ("FarewellStones$Givers", "leavers", "I", false)
  | 1 => ("FarewellStones$Givers", "griefs", "[I", true)
  | 2 => ("FarewellStones$Givers", "drifts", "[[I", true)
  | 3 => ("FarewellStones$Givers", "cells", "[I", true)
  | 4 => ("FarewellStones$Givers", "givers", "[I", true)
  | 5 => ("FarewellStones$Givers", "size", "I", false)
  | 6 => ("FarewellStones$Givers", "left", "[I", true)
  | 7 => ("FarewellStones$Givers", "used", "[I", true)
  | 8 => ("FarewellStones$Givers", "takesFrom", "[I", true)
  | 9 => ("FarewellStones$Givers", "takes", "[I", true)
  | 10 => ("FarewellStones$Givers", "handsTo", "[I", true)
  | 11 => ("FarewellStones$Givers", "hands", "[I", true)
  | _ => ("FarewellStones$Givers", "queue", "[I", true)
def tyX2 : Nat → FieldType := fun k => match k with
  | 0 => .int
  | 1 => .array .int
  | 2 => .array (.array .int)
  | 3 => .array .int
  | 4 => .array .int
  | 5 => .int
  | 6 => .array .int
  | 7 => .array .int
  | 8 => .array .int
  | 9 => .array .int
  | 10 => .array .int
  | 11 => .array .int
  | _ => .array .int
abbrev wsX20 : List Cond := u_ws RX2 TX2 13
theorem nmX2 : ∀ a, a < 13 → ∀ b, b < 13 → a ≠ b → (TX2 a).2.1 ≠ (TX2 b).2.1 := by decide +kernel
theorem tyX2_ok : ∀ k, k < 13 → parseFieldDescriptor (TX2 k).2.2.1 = some (tyX2 k) := by decide +kernel
abbrev cX2_init : ByteArray := prog_4_method_1_code
def yX2_init : MethodName := ⟨RX2, "<init>", "()V"⟩
abbrev cX2_settle : ByteArray := prog_4_method_2_code
def yX2_settle : MethodName := ⟨RX2, "settle", "(LFarewellStones$River;LFarewellStones$Bed;LFarewellStones$Ways;)Z"⟩
abbrev cX2_sum : ByteArray := prog_4_method_3_code
def yX2_sum : MethodName := ⟨RX2, "sum", "()I"⟩
abbrev cX2_listNeeds : ByteArray := prog_4_method_4_code
def yX2_listNeeds : MethodName := ⟨RX2, "listNeeds", "(LFarewellStones$Ways;)V"⟩
abbrev cX2_canGive : ByteArray := prog_4_method_5_code
def yX2_canGive : MethodName := ⟨RX2, "canGive", "(II)Z"⟩
abbrev cX2_give : ByteArray := prog_4_method_6_code
def yX2_give : MethodName := ⟨RX2, "give", "(I)Z"⟩
abbrev cX2_isFree : ByteArray := prog_4_method_7_code
def yX2_isFree : MethodName := ⟨RX2, "isFree", "(I)Z"⟩
abbrev cX2_leastFree : ByteArray := prog_4_method_8_code
def yX2_leastFree : MethodName := ⟨RX2, "leastFree", "()I"⟩
abbrev cX2_spread : ByteArray := prog_4_method_9_code
def yX2_spread : MethodName := ⟨RX2, "spread", "(III)V"⟩
abbrev cX2_spreadBack : ByteArray := prog_4_method_10_code
def yX2_spreadBack : MethodName := ⟨RX2, "spreadBack", "(III)V"⟩
abbrev cX2_passOn : ByteArray := prog_4_method_11_code
def yX2_passOn : MethodName := ⟨RX2, "passOn", "(I)I"⟩
abbrev cX2_handOn : ByteArray := prog_4_method_12_code
def yX2_handOn : MethodName := ⟨RX2, "handOn", "(I)V"⟩
abbrev cX2_giveByFirst : ByteArray := prog_4_method_13_code
def yX2_giveByFirst : MethodName := ⟨RX2, "giveByFirst", "(I)V"⟩
abbrev cX2_giveInstead : ByteArray := prog_4_method_14_code
def yX2_giveInstead : MethodName := ⟨RX2, "giveInstead", "(III)Z"⟩
def RX3 : String := "FarewellStones$Law"
def TX3 : u_T := fun k => match k with
  | 0 => ("FarewellStones$Law", "ops", "[I", true)
  | 1 => ("FarewellStones$Law", "args", "[I", true)
  | 2 => ("FarewellStones$Law", "stack", "[I", true)
  | 3 => ("FarewellStones$Law", "seen", "[I", true)
  | _ => ("FarewellStones$Law", "size", "I", false)
def tyX3 : Nat → FieldType := fun k => match k with
  | 0 => .array .int
  | 1 => .array .int
  | 2 => .array .int
  | 3 => .array .int
  | _ => .int
abbrev wsX30 : List Cond := u_ws RX3 TX3 5
theorem nmX3 : ∀ a, a < 5 → ∀ b, b < 5 → a ≠ b → (TX3 a).2.1 ≠ (TX3 b).2.1 := by decide +kernel
theorem tyX3_ok : ∀ k, k < 5 → parseFieldDescriptor (TX3 k).2.2.1 = some (tyX3 k) := by decide +kernel
abbrev cX3_init : ByteArray := prog_5_method_1_code
def yX3_init : MethodName := ⟨RX3, "<init>", "()V"⟩
abbrev cX3_clear : ByteArray := prog_5_method_2_code
def yX3_clear : MethodName := ⟨RX3, "clear", "()V"⟩
abbrev cX3_put : ByteArray := prog_5_method_3_code
def yX3_put : MethodName := ⟨RX3, "put", "(II)I"⟩
abbrev cX3_aimAtEnd : ByteArray := prog_5_method_4_code
def yX3_aimAtEnd : MethodName := ⟨RX3, "aimAtEnd", "(I)V"⟩
abbrev cX3_tells : ByteArray := prog_5_method_5_code
def yX3_tells : MethodName := ⟨RX3, "tells", "(IIIIII)I"⟩
abbrev cX3_seenAt : ByteArray := prog_5_method_6_code
def yX3_seenAt : MethodName := ⟨RX3, "seenAt", "(I)I"⟩
abbrev cX3_joined : ByteArray := prog_5_method_7_code
def yX3_joined : MethodName := ⟨RX3, "joined", "(III)I"⟩
def RX4 : String := "FarewellStones$Past"
def TX4 : u_T := fun k => match k with
  | 0 => ("FarewellStones$Past", "beds", "[LFarewellStones$Bed;", true)
  | 1 => ("FarewellStones$Past", "next", "I", false)
  | _ => ("FarewellStones$Past", "size", "I", false)
def tyX4 : Nat → FieldType := fun k => match k with
  | 0 => .array (.object "FarewellStones$Bed")
  | 1 => .int
  | _ => .int
abbrev wsX40 : List Cond := u_ws RX4 TX4 3
theorem nmX4 : ∀ a, a < 3 → ∀ b, b < 3 → a ≠ b → (TX4 a).2.1 ≠ (TX4 b).2.1 := by decide +kernel
theorem tyX4_ok : ∀ k, k < 3 → parseFieldDescriptor (TX4 k).2.2.1 = some (tyX4 k) := by decide +kernel
abbrev cX4_init : ByteArray := prog_6_method_1_code
def yX4_init : MethodName := ⟨RX4, "<init>", "()V"⟩
abbrev cX4_clear : ByteArray := prog_6_method_2_code
def yX4_clear : MethodName := ⟨RX4, "clear", "()V"⟩
abbrev cX4_keep : ByteArray := prog_6_method_3_code
def yX4_keep : MethodName := ⟨RX4, "keep", "(LFarewellStones$Bed;)V"⟩
abbrev cX4_bringBack : ByteArray := prog_6_method_4_code
def yX4_bringBack : MethodName := ⟨RX4, "bringBack", "(LFarewellStones$Bed;)Z"⟩
def RX5 : String := "FarewellStones$Reader"
def TX5 : u_T := fun k => match k with
  | 0 => ("FarewellStones$Reader", "tokens", "LFarewellStones$Tokens;", true)
  | 1 => ("FarewellStones$Reader", "at", "I", false)
  | 2 => ("FarewellStones$Reader", "fault", "I", false)
  | 3 => ("FarewellStones$Reader", "place", "I", false)
  | 4 => ("FarewellStones$Reader", "laterFault", "I", false)
  | 5 => ("FarewellStones$Reader", "laterPlace", "I", false)
  | 6 => ("FarewellStones$Reader", "depths", "I", false)
  | _ => ("FarewellStones$Reader", "nameTokens", "[I", true)
def tyX5 : Nat → FieldType := fun k => match k with
  | 0 => .object "FarewellStones$Tokens"
  | 1 => .int
  | 2 => .int
  | 3 => .int
  | 4 => .int
  | 5 => .int
  | 6 => .int
  | _ => .array .int
abbrev wsX50 : List Cond := u_ws RX5 TX5 8
theorem nmX5 : ∀ a, a < 8 → ∀ b, b < 8 → a ≠ b → (TX5 a).2.1 ≠ (TX5 b).2.1 := by decide +kernel
theorem tyX5_ok : ∀ k, k < 8 → parseFieldDescriptor (TX5 k).2.2.1 = some (tyX5 k) := by decide +kernel
abbrev cX5_init : ByteArray := prog_7_method_1_code
def yX5_init : MethodName := ⟨RX5, "<init>", "()V"⟩
abbrev cX5_readText : ByteArray := prog_7_method_2_code
def yX5_readText : MethodName := ⟨RX5, "readText", "(LFarewellStones$Tape;LFarewellStones$River;)I"⟩
abbrev cX5_faultPlace : ByteArray := prog_7_method_3_code
def yX5_faultPlace : MethodName := ⟨RX5, "faultPlace", "()I"⟩
abbrev cX5_readRiver : ByteArray := prog_7_method_4_code
def yX5_readRiver : MethodName := ⟨RX5, "readRiver", "(LFarewellStones$River;)V"⟩
abbrev cX5_readDepth : ByteArray := prog_7_method_5_code
def yX5_readDepth : MethodName := ⟨RX5, "readDepth", "(LFarewellStones$River;)V"⟩
abbrev cX5_readFlow : ByteArray := prog_7_method_6_code
def yX5_readFlow : MethodName := ⟨RX5, "readFlow", "(LFarewellStones$River;)V"⟩
abbrev cX5_readLeap : ByteArray := prog_7_method_7_code
def yX5_readLeap : MethodName := ⟨RX5, "readLeap", "(LFarewellStones$River;)V"⟩
abbrev cX5_readLeaver : ByteArray := prog_7_method_8_code
def yX5_readLeaver : MethodName := ⟨RX5, "readLeaver", "(LFarewellStones$Tape;LFarewellStones$River;)V"⟩
abbrev cX5_takeName : ByteArray := prog_7_method_9_code
def yX5_takeName : MethodName := ⟨RX5, "takeName", "(LFarewellStones$Tape;I)V"⟩
abbrev cX5_isSameName : ByteArray := prog_7_method_10_code
def yX5_isSameName : MethodName := ⟨RX5, "isSameName", "(LFarewellStones$Tape;II)Z"⟩
abbrev cX5_readFlood : ByteArray := prog_7_method_11_code
def yX5_readFlood : MethodName := ⟨RX5, "readFlood", "(LFarewellStones$River;)V"⟩
abbrev cX5_readLaw : ByteArray := prog_7_method_12_code
def yX5_readLaw : MethodName := ⟨RX5, "readLaw", "(LFarewellStones$Law;)V"⟩
abbrev cX5_readSum : ByteArray := prog_7_method_13_code
def yX5_readSum : MethodName := ⟨RX5, "readSum", "(LFarewellStones$Law;I)V"⟩
abbrev cX5_readProduct : ByteArray := prog_7_method_14_code
def yX5_readProduct : MethodName := ⟨RX5, "readProduct", "(LFarewellStones$Law;I)V"⟩
abbrev cX5_readUnit : ByteArray := prog_7_method_15_code
def yX5_readUnit : MethodName := ⟨RX5, "readUnit", "(LFarewellStones$Law;I)V"⟩
abbrev cX5_isEither : ByteArray := prog_7_method_16_code
def yX5_isEither : MethodName := ⟨RX5, "isEither", "(II)Z"⟩
abbrev cX5_take : ByteArray := prog_7_method_17_code
def yX5_take : MethodName := ⟨RX5, "take", "(I)V"⟩
abbrev cX5_takeInt : ByteArray := prog_7_method_18_code
def yX5_takeInt : MethodName := ⟨RX5, "takeInt", "(II)I"⟩
abbrev cX5_fail : ByteArray := prog_7_method_19_code
def yX5_fail : MethodName := ⟨RX5, "fail", "(I)V"⟩
abbrev cX5_failLater : ByteArray := prog_7_method_20_code
def yX5_failLater : MethodName := ⟨RX5, "failLater", "(II)V"⟩
def RX6 : String := "FarewellStones$River"
def TX6 : u_T := fun k => match k with
  | 0 => ("FarewellStones$River", "along", "I", false)
  | 1 => ("FarewellStones$River", "across", "I", false)
  | 2 => ("FarewellStones$River", "leap", "I", false)
  | 3 => ("FarewellStones$River", "depths", "[I", true)
  | 4 => ("FarewellStones$River", "flows", "[I", true)
  | 5 => ("FarewellStones$River", "leavers", "I", false)
  | 6 => ("FarewellStones$River", "firstDays", "[I", true)
  | 7 => ("FarewellStones$River", "sizes", "[I", true)
  | 8 => ("FarewellStones$River", "stones", "[I", true)
  | 9 => ("FarewellStones$River", "griefs", "[I", true)
  | 10 => ("FarewellStones$River", "floods", "I", false)
  | 11 => ("FarewellStones$River", "floodDays", "[I", true)
  | 12 => ("FarewellStones$River", "forces", "[I", true)
  | 13 => ("FarewellStones$River", "carry", "LFarewellStones$Law;", true)
  | _ => ("FarewellStones$River", "slip", "LFarewellStones$Law;", true)
def tyX6 : Nat → FieldType := fun k => match k with
  | 0 => .int
  | 1 => .int
  | 2 => .int
  | 3 => .array .int
  | 4 => .array .int
  | 5 => .int
  | 6 => .array .int
  | 7 => .array .int
  | 8 => .array .int
  | 9 => .array .int
  | 10 => .int
  | 11 => .array .int
  | 12 => .array .int
  | 13 => .object "FarewellStones$Law"
  | _ => .object "FarewellStones$Law"
abbrev wsX60 : List Cond := u_ws RX6 TX6 15
theorem nmX6 : ∀ a, a < 15 → ∀ b, b < 15 → a ≠ b → (TX6 a).2.1 ≠ (TX6 b).2.1 := by decide +kernel
theorem tyX6_ok : ∀ k, k < 15 → parseFieldDescriptor (TX6 k).2.2.1 = some (tyX6 k) := by decide +kernel
abbrev cX6_init : ByteArray := prog_8_method_1_code
def yX6_init : MethodName := ⟨RX6, "<init>", "()V"⟩
abbrev cX6_clear : ByteArray := prog_8_method_2_code
def yX6_clear : MethodName := ⟨RX6, "clear", "()V"⟩
abbrev cX6_has : ByteArray := prog_8_method_3_code
def yX6_has : MethodName := ⟨RX6, "has", "(II)Z"⟩
abbrev cX6_drift : ByteArray := prog_8_method_4_code
def yX6_drift : MethodName := ⟨RX6, "drift", "(II)I"⟩
abbrev cX6_isLeptAtOnce : ByteArray := prog_8_method_5_code
def yX6_isLeptAtOnce : MethodName := ⟨RX6, "isLeptAtOnce", "()Z"⟩
abbrev cX6_isNearEnough : ByteArray := prog_8_method_6_code
def yX6_isNearEnough : MethodName := ⟨RX6, "isNearEnough", "(I)Z"⟩
abbrev cX6_isFarEnough : ByteArray := prog_8_method_7_code
def yX6_isFarEnough : MethodName := ⟨RX6, "isFarEnough", "(I)Z"⟩
abbrev cX6_countLeaps : ByteArray := prog_8_method_8_code
def yX6_countLeaps : MethodName := ⟨RX6, "countLeaps", "()I"⟩
abbrev cX6_leapFrom : ByteArray := prog_8_method_9_code
def yX6_leapFrom : MethodName := ⟨RX6, "leapFrom", "(II)I"⟩
abbrev cX6_isWithinLeap : ByteArray := prog_8_method_10_code
def yX6_isWithinLeap : MethodName := ⟨RX6, "isWithinLeap", "(II)Z"⟩
def RX7 : String := "FarewellStones$Tape"
def TX7 : u_T := fun k => match k with
  | 0 => ("FarewellStones$Tape", "bytes", "[B", true)
  | _ => ("FarewellStones$Tape", "length", "I", false)
def tyX7 : Nat → FieldType := fun k => match k with
  | 0 => .array .byte
  | _ => .int
abbrev wsX70 : List Cond := u_ws RX7 TX7 2
theorem nmX7 : ∀ a, a < 2 → ∀ b, b < 2 → a ≠ b → (TX7 a).2.1 ≠ (TX7 b).2.1 := by decide +kernel
theorem tyX7_ok : ∀ k, k < 2 → parseFieldDescriptor (TX7 k).2.2.1 = some (tyX7 k) := by decide +kernel
abbrev cX7_init : ByteArray := prog_9_method_1_code
def yX7_init : MethodName := ⟨RX7, "<init>", "()V"⟩
abbrev cX7_put : ByteArray := prog_9_method_2_code
def yX7_put : MethodName := ⟨RX7, "put", "(I)V"⟩
abbrev cX7_byteAt : ByteArray := prog_9_method_3_code
def yX7_byteAt : MethodName := ⟨RX7, "byteAt", "(I)I"⟩
def RX8 : String := "FarewellStones$Tokens"
def TX8 : u_T := fun k => match k with
  | 0 => ("FarewellStones$Tokens", "kinds", "[I", true)
  | 1 => ("FarewellStones$Tokens", "starts", "[I", true)
  | 2 => ("FarewellStones$Tokens", "sizes", "[I", true)
  | _ => ("FarewellStones$Tokens", "values", "[I", true)
def tyX8 : Nat → FieldType := fun k => match k with
  | 0 => .array .int
  | 1 => .array .int
  | 2 => .array .int
  | _ => .array .int
abbrev wsX80 : List Cond := u_ws RX8 TX8 4
theorem nmX8 : ∀ a, a < 4 → ∀ b, b < 4 → a ≠ b → (TX8 a).2.1 ≠ (TX8 b).2.1 := by decide +kernel
theorem tyX8_ok : ∀ k, k < 4 → parseFieldDescriptor (TX8 k).2.2.1 = some (tyX8 k) := by decide +kernel
abbrev cX8_init : ByteArray := prog_10_method_1_code
def yX8_init : MethodName := ⟨RX8, "<init>", "()V"⟩
abbrev cX8_scan : ByteArray := prog_10_method_2_code
def yX8_scan : MethodName := ⟨RX8, "scan", "(LFarewellStones$Tape;)V"⟩
abbrev cX8_put : ByteArray := prog_10_method_3_code
def yX8_put : MethodName := ⟨RX8, "put", "(IIII)V"⟩
abbrev cX8_endOfToken : ByteArray := prog_10_method_4_code
def yX8_endOfToken : MethodName := ⟨RX8, "endOfToken", "(LFarewellStones$Tape;I)I"⟩
abbrev cX8_skip : ByteArray := prog_10_method_5_code
def yX8_skip : MethodName := ⟨RX8, "skip", "(LFarewellStones$Tape;II)I"⟩
abbrev cX8_sortOf : ByteArray := prog_10_method_6_code
def yX8_sortOf : MethodName := ⟨RX8, "sortOf", "(I)I"⟩
abbrev cX8_kindOf : ByteArray := prog_10_method_7_code
def yX8_kindOf : MethodName := ⟨RX8, "kindOf", "(LFarewellStones$Tape;II)I"⟩
abbrev cX8_wordKind : ByteArray := prog_10_method_8_code
def yX8_wordKind : MethodName := ⟨RX8, "wordKind", "(LFarewellStones$Tape;II)I"⟩
abbrev cX8_spells : ByteArray := prog_10_method_9_code
def yX8_spells : MethodName := ⟨RX8, "spells", "(LFarewellStones$Tape;III)Z"⟩
abbrev cX8_number : ByteArray := prog_10_method_10_code
def yX8_number : MethodName := ⟨RX8, "number", "(LFarewellStones$Tape;II)I"⟩
def RX9 : String := "FarewellStones$Ways"
def TX9 : u_T := fun k => match k with
  | 0 => ("FarewellStones$Ways", "weights", "[I", true)
  | 1 => ("FarewellStones$Ways", "line", "[I", true)
  | 2 => ("FarewellStones$Ways", "length", "I", false)
  | 3 => ("FarewellStones$Ways", "costs", "[I", true)
  | 4 => ("FarewellStones$Ways", "done", "[Z", true)
  | _ => ("FarewellStones$Ways", "queue", "[I", true)
def tyX9 : Nat → FieldType := fun k => match k with
  | 0 => .array .int
  | 1 => .array .int
  | 2 => .int
  | 3 => .array .int
  | 4 => .array .boolean
  | _ => .array .int
abbrev wsX90 : List Cond := u_ws RX9 TX9 6
theorem nmX9 : ∀ a, a < 6 → ∀ b, b < 6 → a ≠ b → (TX9 a).2.1 ≠ (TX9 b).2.1 := by decide +kernel
theorem tyX9_ok : ∀ k, k < 6 → parseFieldDescriptor (TX9 k).2.2.1 = some (tyX9 k) := by decide +kernel
abbrev cX9_init : ByteArray := prog_11_method_1_code
def yX9_init : MethodName := ⟨RX9, "<init>", "()V"⟩
abbrev cX9_find : ByteArray := prog_11_method_2_code
def yX9_find : MethodName := ⟨RX9, "find", "(LFarewellStones$River;II)Z"⟩
abbrev cX9_leaps : ByteArray := prog_11_method_3_code
def yX9_leaps : MethodName := ⟨RX9, "leaps", "()I"⟩
abbrev cX9_sum : ByteArray := prog_11_method_4_code
def yX9_sum : MethodName := ⟨RX9, "sum", "()I"⟩
abbrev cX9_weighCosts : ByteArray := prog_11_method_5_code
def yX9_weighCosts : MethodName := ⟨RX9, "weighCosts", "(LFarewellStones$River;II)V"⟩
abbrev cX9_cheapest : ByteArray := prog_11_method_6_code
def yX9_cheapest : MethodName := ⟨RX9, "cheapest", "()I"⟩
abbrev cX9_drawLine : ByteArray := prog_11_method_7_code
def yX9_drawLine : MethodName := ⟨RX9, "drawLine", "(LFarewellStones$River;III)V"⟩
abbrev cX9_firstWithCost : ByteArray := prog_11_method_8_code
def yX9_firstWithCost : MethodName := ⟨RX9, "firstWithCost", "(LFarewellStones$River;II)I"⟩
abbrev cX9_leadOver : ByteArray := prog_11_method_9_code
def yX9_leadOver : MethodName := ⟨RX9, "leadOver", "(LFarewellStones$River;)Z"⟩
def RX10 : String := "FarewellStones"
def TX10 : u_T := fun k => match k with
  | 0 => ("FarewellStones", "tape", "LFarewellStones$Tape;", true)
  | 1 => ("FarewellStones", "reader", "LFarewellStones$Reader;", true)
  | 2 => ("FarewellStones", "faultPlace", "I", false)
  | 3 => ("FarewellStones", "river", "LFarewellStones$River;", false)
  | 4 => ("FarewellStones", "spareRiver", "LFarewellStones$River;", false)
  | 5 => ("FarewellStones", "bed", "LFarewellStones$Bed;", true)
  | 6 => ("FarewellStones", "trial", "LFarewellStones$Bed;", true)
  | 7 => ("FarewellStones", "past", "LFarewellStones$Past;", true)
  | 8 => ("FarewellStones", "slots", "[LFarewellStones$Bed;", true)
  | 9 => ("FarewellStones", "held", "[Z", true)
  | 10 => ("FarewellStones", "toldCells", "[I", true)
  | 11 => ("FarewellStones", "toldStones", "[I", true)
  | 12 => ("FarewellStones", "told", "I", false)
  | 13 => ("FarewellStones", "ways", "LFarewellStones$Ways;", true)
  | 14 => ("FarewellStones", "fordFinder", "LFarewellStones$Fords;", true)
  | _ => ("FarewellStones", "givers", "LFarewellStones$Givers;", true)
def tyX10 : Nat → FieldType := fun k => match k with
  | 0 => .object "FarewellStones$Tape"
  | 1 => .object "FarewellStones$Reader"
  | 2 => .int
  | 3 => .object "FarewellStones$River"
  | 4 => .object "FarewellStones$River"
  | 5 => .object "FarewellStones$Bed"
  | 6 => .object "FarewellStones$Bed"
  | 7 => .object "FarewellStones$Past"
  | 8 => .array (.object "FarewellStones$Bed")
  | 9 => .array .boolean
  | 10 => .array .int
  | 11 => .array .int
  | 12 => .int
  | 13 => .object "FarewellStones$Ways"
  | 14 => .object "FarewellStones$Fords"
  | _ => .object "FarewellStones$Givers"
abbrev wsX100 : List Cond := u_ws RX10 TX10 16
theorem nmX10 : ∀ a, a < 16 → ∀ b, b < 16 → a ≠ b → (TX10 a).2.1 ≠ (TX10 b).2.1 := by decide +kernel
theorem tyX10_ok : ∀ k, k < 16 → parseFieldDescriptor (TX10 k).2.2.1 = some (tyX10 k) := by decide +kernel
abbrev cX10_init : ByteArray := prog_1_method_1_code
def yX10_init : MethodName := ⟨RX10, "<init>", "()V"⟩
abbrev cX10_feed : ByteArray := prog_1_method_2_code
def yX10_feed : MethodName := ⟨RX10, "feed", "(IIIII)I"⟩
abbrev cX10_back : ByteArray := prog_1_method_3_code
def yX10_back : MethodName := ⟨RX10, "back", "(I)I"⟩
abbrev cX10_read : ByteArray := prog_1_method_4_code
def yX10_read : MethodName := ⟨RX10, "read", "()I"⟩
abbrev cX10_place : ByteArray := prog_1_method_5_code
def yX10_place : MethodName := ⟨RX10, "place", "()I"⟩
abbrev cX10_beginAnew : ByteArray := prog_1_method_6_code
def yX10_beginAnew : MethodName := ⟨RX10, "beginAnew", "()V"⟩
abbrev cX10_cell : ByteArray := prog_1_method_7_code
def yX10_cell : MethodName := ⟨RX10, "cell", "(III)I"⟩
abbrev cX10_stone : ByteArray := prog_1_method_8_code
def yX10_stone : MethodName := ⟨RX10, "stone", "(III)I"⟩
abbrev cX10_leaver : ByteArray := prog_1_method_9_code
def yX10_leaver : MethodName := ⟨RX10, "leaver", "(II)I"⟩
abbrev cX10_count : ByteArray := prog_1_method_10_code
def yX10_count : MethodName := ⟨RX10, "count", "(I)I"⟩
abbrev cX10_countHeld : ByteArray := prog_1_method_11_code
def yX10_countHeld : MethodName := ⟨RX10, "countHeld", "()I"⟩
abbrev cX10_isLeaver : ByteArray := prog_1_method_12_code
def yX10_isLeaver : MethodName := ⟨RX10, "isLeaver", "(I)Z"⟩
abbrev cX10_cellNumber : ByteArray := prog_1_method_13_code
def yX10_cellNumber : MethodName := ⟨RX10, "cellNumber", "(II)I"⟩
abbrev cX10_cellName : ByteArray := prog_1_method_14_code
def yX10_cellName : MethodName := ⟨RX10, "cellName", "(I)I"⟩
abbrev cX10_hurl : ByteArray := prog_1_method_15_code
def yX10_hurl : MethodName := ⟨RX10, "hurl", "(III)I"⟩
abbrev cX10_days : ByteArray := prog_1_method_16_code
def yX10_days : MethodName := ⟨RX10, "days", "(I)I"⟩
abbrev cX10_undo : ByteArray := prog_1_method_17_code
def yX10_undo : MethodName := ⟨RX10, "undo", "()Z"⟩
abbrev cX10_hold : ByteArray := prog_1_method_18_code
def yX10_hold : MethodName := ⟨RX10, "hold", "(I)Z"⟩
abbrev cX10_restore : ByteArray := prog_1_method_19_code
def yX10_restore : MethodName := ⟨RX10, "restore", "(I)Z"⟩
abbrev cX10_over : ByteArray := prog_1_method_20_code
def yX10_over : MethodName := ⟨RX10, "over", "(II)I"⟩
abbrev cX10_overAt : ByteArray := prog_1_method_21_code
def yX10_overAt : MethodName := ⟨RX10, "overAt", "(II)I"⟩
abbrev cX10_findWayOver : ByteArray := prog_1_method_22_code
def yX10_findWayOver : MethodName := ⟨RX10, "findWayOver", "(I)Z"⟩
abbrev cX10_lack : ByteArray := prog_1_method_23_code
def yX10_lack : MethodName := ⟨RX10, "lack", "(I)I"⟩
abbrev cX10_lackAt : ByteArray := prog_1_method_24_code
def yX10_lackAt : MethodName := ⟨RX10, "lackAt", "(I)I"⟩
abbrev cX10_grief : ByteArray := prog_1_method_25_code
def yX10_grief : MethodName := ⟨RX10, "grief", "()I"⟩
abbrev cX10_gives : ByteArray := prog_1_method_26_code
def yX10_gives : MethodName := ⟨RX10, "gives", "(I)I"⟩
abbrev cX10_findLack : ByteArray := prog_1_method_27_code
def yX10_findLack : MethodName := ⟨RX10, "findLack", "()V"⟩
abbrev cX10_findGivers : ByteArray := prog_1_method_28_code
def yX10_findGivers : MethodName := ⟨RX10, "findGivers", "()Z"⟩
abbrev cX10_needed : ByteArray := prog_1_method_29_code
def yX10_needed : MethodName := ⟨RX10, "needed", "()I"⟩
abbrev cX10_alone : ByteArray := prog_1_method_30_code
def yX10_alone : MethodName := ⟨RX10, "alone", "()I"⟩
abbrev cX10_breaks : ByteArray := prog_1_method_31_code
def yX10_breaks : MethodName := ⟨RX10, "breaks", "()I"⟩
abbrev cX10_fords : ByteArray := prog_1_method_32_code
def yX10_fords : MethodName := ⟨RX10, "fords", "()I"⟩
abbrev cX10_isWayOver : ByteArray := prog_1_method_33_code
def yX10_isWayOver : MethodName := ⟨RX10, "isWayOver", "(LFarewellStones$Bed;)Z"⟩
abbrev cX10_tell : ByteArray := prog_1_method_34_code
def yX10_tell : MethodName := ⟨RX10, "tell", "(III)I"⟩
abbrev cX10_forget : ByteArray := prog_1_method_35_code
def yX10_forget : MethodName := ⟨RX10, "forget", "()I"⟩
abbrev cX10_fits : ByteArray := prog_1_method_36_code
def yX10_fits : MethodName := ⟨RX10, "fits", "(IIII)I"⟩
abbrev cX10_rowsWrongWithout : ByteArray := prog_1_method_37_code
def yX10_rowsWrongWithout : MethodName := ⟨RX10, "rowsWrongWithout", "(II)I"⟩
abbrev cX10_fitsAt : ByteArray := prog_1_method_38_code
def yX10_fitsAt : MethodName := ⟨RX10, "fitsAt", "(IIIII)Z"⟩
abbrev cX10_isKnownOf : ByteArray := prog_1_method_39_code
def yX10_isKnownOf : MethodName := ⟨RX10, "isKnownOf", "(II)Z"⟩
abbrev cX10_isKnownSo : ByteArray := prog_1_method_40_code
def yX10_isKnownSo : MethodName := ⟨RX10, "isKnownSo", "(II)Z"⟩
def RX11 : String := "FarewellStonesModel"
def TX11 : u_T := fun k => match k with
  | 0 => ("FarewellStonesModel", "thrown", "I", false)
  | 1 => ("FarewellStonesModel", "tape", "[B", true)
  | 2 => ("FarewellStonesModel", "taped", "I", false)
  | 3 => ("FarewellStonesModel", "text", "[B", true)
  | 4 => ("FarewellStonesModel", "size", "I", false)
  | 5 => ("FarewellStonesModel", "tKind", "[I", true)
  | 6 => ("FarewellStonesModel", "tPlace", "[I", true)
  | 7 => ("FarewellStonesModel", "tValue", "[I", true)
  | 8 => ("FarewellStonesModel", "tName", "[J", true)
  | 9 => ("FarewellStonesModel", "keys", "[J", true)
  | 10 => ("FarewellStonesModel", "tokens", "I", false)
  | 11 => ("FarewellStonesModel", "t", "I", false)
  | 12 => ("FarewellStonesModel", "open", "I", false)
  | 13 => ("FarewellStonesModel", "fault", "I", false)
  | 14 => ("FarewellStonesModel", "faultPlace", "I", false)
  | 15 => ("FarewellStonesModel", "worst", "I", false)
  | 16 => ("FarewellStonesModel", "worstPlace", "I", false)
  | 17 => ("FarewellStonesModel", "place", "I", false)
  | 18 => ("FarewellStonesModel", "live", "I", false)
  | 19 => ("FarewellStonesModel", "side", "I", false)
  | 20 => ("FarewellStonesModel", "names", "I", false)
  | 21 => ("FarewellStonesModel", "nameOf", "[J", true)
  | 22 => ("FarewellStonesModel", "longOf", "[I", true)
  | 23 => ("FarewellStonesModel", "wide", "[I", true)
  | 24 => ("FarewellStonesModel", "depths", "[I", true)
  | 25 => ("FarewellStonesModel", "depth", "[I", true)
  | 26 => ("FarewellStonesModel", "flow", "[I", true)
  | 27 => ("FarewellStonesModel", "leap", "[I", true)
  | 28 => ("FarewellStonesModel", "leavers", "[I", true)
  | 29 => ("FarewellStonesModel", "dayOf", "[I", true)
  | 30 => ("FarewellStonesModel", "sizeOf", "[I", true)
  | 31 => ("FarewellStonesModel", "manyOf", "[I", true)
  | 32 => ("FarewellStonesModel", "griefOf", "[I", true)
  | 33 => ("FarewellStonesModel", "floods", "[I", true)
  | 34 => ("FarewellStonesModel", "floodDay", "[I", true)
  | 35 => ("FarewellStonesModel", "floodForce", "[I", true)
  | 36 => ("FarewellStonesModel", "lawFirst", "[I", true)
  | 37 => ("FarewellStonesModel", "lawLast", "[I", true)
  | 38 => ("FarewellStonesModel", "branches", "I", false)
  | 39 => ("FarewellStonesModel", "hasTest", "[Z", true)
  | 40 => ("FarewellStonesModel", "testFrom", "[I", true)
  | 41 => ("FarewellStonesModel", "testMid", "[I", true)
  | 42 => ("FarewellStonesModel", "testTo", "[I", true)
  | 43 => ("FarewellStonesModel", "termTo", "[I", true)
  | 44 => ("FarewellStonesModel", "codes", "I", false)
  | 45 => ("FarewellStonesModel", "code", "[I", true)
  | 46 => ("FarewellStonesModel", "codeInt", "[I", true)
  | 47 => ("FarewellStonesModel", "waits", "[I", true)
  | 48 => ("FarewellStonesModel", "waiting", "I", false)
  | 49 => ("FarewellStonesModel", "variables", "[I", true)
  | 50 => ("FarewellStonesModel", "pile", "[I", true)
  | 51 => ("FarewellStonesModel", "isBroken", "Z", false)
  | 52 => ("FarewellStonesModel", "now", "[I", true)
  | 53 => ("FarewellStonesModel", "row", "[I", true)
  | 54 => ("FarewellStonesModel", "heights", "[I", true)
  | 55 => ("FarewellStonesModel", "undos", "I", false)
  | 56 => ("FarewellStonesModel", "history", "[I", true)
  | 57 => ("FarewellStonesModel", "may", "[Z", true)
  | 58 => ("FarewellStonesModel", "costOf", "[I", true)
  | 59 => ("FarewellStonesModel", "best", "[I", true)
  | 60 => ("FarewellStonesModel", "lineLong", "I", false)
  | 61 => ("FarewellStonesModel", "line", "[I", true)
  | 62 => ("FarewellStonesModel", "wants", "[I", true)
  | 63 => ("FarewellStonesModel", "wanted", "I", false)
  | 64 => ("FarewellStonesModel", "has", "[I", true)
  | 65 => ("FarewellStonesModel", "takes", "[I", true)
  | 66 => ("FarewellStonesModel", "bySize", "[I", true)
  | 67 => ("FarewellStonesModel", "gives0", "[I", true)
  | 68 => ("FarewellStonesModel", "griefSum", "I", false)
  | 69 => ("FarewellStonesModel", "fromNear", "[Z", true)
  | 70 => ("FarewellStonesModel", "through", "[Z", true)
  | 71 => ("FarewellStonesModel", "fromTo", "[Z", true)
  | 72 => ("FarewellStonesModel", "toFar", "[Z", true)
  | 73 => ("FarewellStonesModel", "foundBy", "[I", true)
  | 74 => ("FarewellStonesModel", "queue", "[I", true)
  | 75 => ("FarewellStonesModel", "queued", "I", false)
  | 76 => ("FarewellStonesModel", "told", "I", false)
  | 77 => ("FarewellStonesModel", "toldCell", "[I", true)
  | 78 => ("FarewellStonesModel", "toldStones", "[I", true)
  | 79 => ("FarewellStonesModel", "isHeld", "[Z", true)
  | _ => ("FarewellStonesModel", "held", "[I", true)
def tyX11 : Nat → FieldType := fun k => match k with
  | 0 => .int
  | 1 => .array .byte
  | 2 => .int
  | 3 => .array .byte
  | 4 => .int
  | 5 => .array .int
  | 6 => .array .int
  | 7 => .array .int
  | 8 => .array .long
  | 9 => .array .long
  | 10 => .int
  | 11 => .int
  | 12 => .int
  | 13 => .int
  | 14 => .int
  | 15 => .int
  | 16 => .int
  | 17 => .int
  | 18 => .int
  | 19 => .int
  | 20 => .int
  | 21 => .array .long
  | 22 => .array .int
  | 23 => .array .int
  | 24 => .array .int
  | 25 => .array .int
  | 26 => .array .int
  | 27 => .array .int
  | 28 => .array .int
  | 29 => .array .int
  | 30 => .array .int
  | 31 => .array .int
  | 32 => .array .int
  | 33 => .array .int
  | 34 => .array .int
  | 35 => .array .int
  | 36 => .array .int
  | 37 => .array .int
  | 38 => .int
  | 39 => .array .boolean
  | 40 => .array .int
  | 41 => .array .int
  | 42 => .array .int
  | 43 => .array .int
  | 44 => .int
  | 45 => .array .int
  | 46 => .array .int
  | 47 => .array .int
  | 48 => .int
  | 49 => .array .int
  | 50 => .array .int
  | 51 => .boolean
  | 52 => .array .int
  | 53 => .array .int
  | 54 => .array .int
  | 55 => .int
  | 56 => .array .int
  | 57 => .array .boolean
  | 58 => .array .int
  | 59 => .array .int
  | 60 => .int
  | 61 => .array .int
  | 62 => .array .int
  | 63 => .int
  | 64 => .array .int
  | 65 => .array .int
  | 66 => .array .int
  | 67 => .array .int
  | 68 => .int
  | 69 => .array .boolean
  | 70 => .array .boolean
  | 71 => .array .boolean
  | 72 => .array .boolean
  | 73 => .array .int
  | 74 => .array .int
  | 75 => .int
  | 76 => .int
  | 77 => .array .int
  | 78 => .array .int
  | 79 => .array .boolean
  | _ => .array .int
abbrev wsX110 : List Cond := u_ws RX11 TX11 81
theorem nmX11 : ∀ a, a < 81 → ∀ b, b < 81 → a ≠ b → (TX11 a).2.1 ≠ (TX11 b).2.1 := by decide +kernel
theorem tyX11_ok : ∀ k, k < 81 → parseFieldDescriptor (TX11 k).2.2.1 = some (tyX11 k) := by decide +kernel
abbrev cX11_init : ByteArray := prog_13_method_2_code
def yX11_init : MethodName := ⟨RX11, "<init>", "()V"⟩
abbrev cX11_feed : ByteArray := prog_13_method_3_code
def yX11_feed : MethodName := ⟨RX11, "feed", "(IIIII)I"⟩
abbrev cX11_put : ByteArray := prog_13_method_4_code
def yX11_put : MethodName := ⟨RX11, "put", "(I)V"⟩
abbrev cX11_back : ByteArray := prog_13_method_5_code
def yX11_back : MethodName := ⟨RX11, "back", "(I)I"⟩
abbrev cX11_byteAt : ByteArray := prog_13_method_6_code
def yX11_byteAt : MethodName := ⟨RX11, "byteAt", "(I)I"⟩
abbrev cX11_isDigit : ByteArray := prog_13_method_7_code
def yX11_isDigit : MethodName := ⟨RX11, "isDigit", "(I)Z"⟩
abbrev cX11_isLetter : ByteArray := prog_13_method_8_code
def yX11_isLetter : MethodName := ⟨RX11, "isLetter", "(I)Z"⟩
abbrev cX11_appends : ByteArray := prog_13_method_9_code
def yX11_appends : MethodName := ⟨RX11, "appends", "(JI)J"⟩
abbrev cX11_word : ByteArray := prog_13_method_10_code
def yX11_word : MethodName := ⟨RX11, "word", "(IIIIIII)J"⟩
abbrev cX11_token : ByteArray := prog_13_method_11_code
def yX11_token : MethodName := ⟨RX11, "token", "(IIIJ)V"⟩
abbrev cX11_cut : ByteArray := prog_13_method_12_code
def yX11_cut : MethodName := ⟨RX11, "cut", "()V"⟩
abbrev cX11_sign : ByteArray := prog_13_method_13_code
def yX11_sign : MethodName := ⟨RX11, "sign", "(III)I"⟩
abbrev cX11_is : ByteArray := prog_13_method_14_code
def yX11_is : MethodName := ⟨RX11, "is", "(I)Z"⟩
abbrev cX11_fail : ByteArray := prog_13_method_15_code
def yX11_fail : MethodName := ⟨RX11, "fail", "(I)V"⟩
abbrev cX11_wrong : ByteArray := prog_13_method_16_code
def yX11_wrong : MethodName := ⟨RX11, "wrong", "(II)V"⟩
abbrev cX11_goesOn : ByteArray := prog_13_method_17_code
def yX11_goesOn : MethodName := ⟨RX11, "goesOn", "()V"⟩
abbrev cX11_must : ByteArray := prog_13_method_18_code
def yX11_must : MethodName := ⟨RX11, "must", "(I)V"⟩
abbrev cX11_plain : ByteArray := prog_13_method_19_code
def yX11_plain : MethodName := ⟨RX11, "plain", "(I)V"⟩
abbrev cX11_read : ByteArray := prog_13_method_20_code
def yX11_read : MethodName := ⟨RX11, "read", "()I"⟩
abbrev cX11_place : ByteArray := prog_13_method_21_code
def yX11_place : MethodName := ⟨RX11, "place", "()I"⟩
abbrev cX11_roomFor : ByteArray := prog_13_method_22_code
def yX11_roomFor : MethodName := ⟨RX11, "roomFor", "(II)V"⟩
abbrev cX11_tell : ByteArray := prog_13_method_23_code
def yX11_tell : MethodName := ⟨RX11, "tell", "()V"⟩
abbrev cX11_bounded : ByteArray := prog_13_method_24_code
def yX11_bounded : MethodName := ⟨RX11, "bounded", "(II)I"⟩
abbrev cX11_tellDepth : ByteArray := prog_13_method_25_code
def yX11_tellDepth : MethodName := ⟨RX11, "tellDepth", "()V"⟩
abbrev cX11_tellLeaver : ByteArray := prog_13_method_26_code
def yX11_tellLeaver : MethodName := ⟨RX11, "tellLeaver", "()V"⟩
abbrev cX11_tellFlood : ByteArray := prog_13_method_27_code
def yX11_tellFlood : MethodName := ⟨RX11, "tellFlood", "()V"⟩
abbrev cX11_tellLaw : ByteArray := prog_13_method_28_code
def yX11_tellLaw : MethodName := ⟨RX11, "tellLaw", "(I)V"⟩
abbrev cX11_term : ByteArray := prog_13_method_29_code
def yX11_term : MethodName := ⟨RX11, "term", "()V"⟩
abbrev cX11_emit : ByteArray := prog_13_method_30_code
def yX11_emit : MethodName := ⟨RX11, "emit", "(II)V"⟩
abbrev cX11_comesOut : ByteArray := prog_13_method_31_code
def yX11_comesOut : MethodName := ⟨RX11, "comesOut", "(Z)V"⟩
abbrev cX11_expression : ByteArray := prog_13_method_32_code
def yX11_expression : MethodName := ⟨RX11, "expression", "()V"⟩
abbrev cX11_unit : ByteArray := prog_13_method_33_code
def yX11_unit : MethodName := ⟨RX11, "unit", "()V"⟩
abbrev cX11_termOf : ByteArray := prog_13_method_34_code
def yX11_termOf : MethodName := ⟨RX11, "termOf", "(II)I"⟩
abbrev cX11_in : ByteArray := prog_13_method_35_code
def yX11_in : MethodName := ⟨RX11, "in", "(III)Z"⟩
abbrev cX11_begins : ByteArray := prog_13_method_36_code
def yX11_begins : MethodName := ⟨RX11, "begins", "()V"⟩
abbrev cX11_copies : ByteArray := prog_13_method_37_code
def yX11_copies : MethodName := ⟨RX11, "copies", "()V"⟩
abbrev cX11_counts : ByteArray := prog_13_method_38_code
def yX11_counts : MethodName := ⟨RX11, "counts", "()V"⟩
abbrev cX11_isCell : ByteArray := prog_13_method_39_code
def yX11_isCell : MethodName := ⟨RX11, "isCell", "(II)Z"⟩
abbrev cX11_isLeaver : ByteArray := prog_13_method_40_code
def yX11_isLeaver : MethodName := ⟨RX11, "isLeaver", "(I)Z"⟩
abbrev cX11_deep : ByteArray := prog_13_method_41_code
def yX11_deep : MethodName := ⟨RX11, "deep", "(I)I"⟩
abbrev cX11_isStep : ByteArray := prog_13_method_42_code
def yX11_isStep : MethodName := ⟨RX11, "isStep", "(I)Z"⟩
abbrev cX11_tellsBy : ByteArray := prog_13_method_43_code
def yX11_tellsBy : MethodName := ⟨RX11, "tellsBy", "(IIII)I"⟩
abbrev cX11_leftOf : ByteArray := prog_13_method_44_code
def yX11_leftOf : MethodName := ⟨RX11, "leftOf", "(I)I"⟩
abbrev cX11_mayThrow : ByteArray := prog_13_method_45_code
def yX11_mayThrow : MethodName := ⟨RX11, "mayThrow", "(I)Z"⟩
abbrev cX11_driftOf : ByteArray := prog_13_method_46_code
def yX11_driftOf : MethodName := ⟨RX11, "driftOf", "(II)I"⟩
abbrev cX11_throwsAt : ByteArray := prog_13_method_47_code
def yX11_throwsAt : MethodName := ⟨RX11, "throwsAt", "(III)I"⟩
abbrev cX11_carries : ByteArray := prog_13_method_48_code
def yX11_carries : MethodName := ⟨RX11, "carries", "(III)V"⟩
abbrev cX11_dayGoes : ByteArray := prog_13_method_49_code
def yX11_dayGoes : MethodName := ⟨RX11, "dayGoes", "()V"⟩
abbrev cX11_cell : ByteArray := prog_13_method_50_code
def yX11_cell : MethodName := ⟨RX11, "cell", "(III)I"⟩
abbrev cX11_ownerAt : ByteArray := prog_13_method_51_code
def yX11_ownerAt : MethodName := ⟨RX11, "ownerAt", "(II)I"⟩
abbrev cX11_stone : ByteArray := prog_13_method_52_code
def yX11_stone : MethodName := ⟨RX11, "stone", "(III)I"⟩
abbrev cX11_leaver : ByteArray := prog_13_method_53_code
def yX11_leaver : MethodName := ⟨RX11, "leaver", "(II)I"⟩
abbrev cX11_keeps : ByteArray := prog_13_method_54_code
def yX11_keeps : MethodName := ⟨RX11, "keeps", "()V"⟩
abbrev cX11_canThrow : ByteArray := prog_13_method_55_code
def yX11_canThrow : MethodName := ⟨RX11, "canThrow", "(I)Z"⟩
abbrev cX11_hurl : ByteArray := prog_13_method_56_code
def yX11_hurl : MethodName := ⟨RX11, "hurl", "(III)I"⟩
abbrev cX11_days : ByteArray := prog_13_method_57_code
def yX11_days : MethodName := ⟨RX11, "days", "(I)I"⟩
abbrev cX11_undo : ByteArray := prog_13_method_58_code
def yX11_undo : MethodName := ⟨RX11, "undo", "()Z"⟩
abbrev cX11_leaps : ByteArray := prog_13_method_59_code
def yX11_leaps : MethodName := ⟨RX11, "leaps", "(II)Z"⟩
abbrev cX11_ends : ByteArray := prog_13_method_60_code
def yX11_ends : MethodName := ⟨RX11, "ends", "(I)Z"⟩
abbrev cX11_fillsWays : ByteArray := prog_13_method_61_code
def yX11_fillsWays : MethodName := ⟨RX11, "fillsWays", "(I)V"⟩
abbrev cX11_fillsLine : ByteArray := prog_13_method_62_code
def yX11_fillsLine : MethodName := ⟨RX11, "fillsLine", "(I)V"⟩
abbrev cX11_findsOver : ByteArray := prog_13_method_63_code
def yX11_findsOver : MethodName := ⟨RX11, "findsOver", "(I)Z"⟩
abbrev cX11_over : ByteArray := prog_13_method_64_code
def yX11_over : MethodName := ⟨RX11, "over", "(II)I"⟩
abbrev cX11_overAt : ByteArray := prog_13_method_65_code
def yX11_overAt : MethodName := ⟨RX11, "overAt", "(II)I"⟩
abbrev cX11_findsLack : ByteArray := prog_13_method_66_code
def yX11_findsLack : MethodName := ⟨RX11, "findsLack", "()V"⟩
abbrev cX11_lack : ByteArray := prog_13_method_67_code
def yX11_lack : MethodName := ⟨RX11, "lack", "(I)I"⟩
abbrev cX11_lackAt : ByteArray := prog_13_method_68_code
def yX11_lackAt : MethodName := ⟨RX11, "lackAt", "(I)I"⟩
abbrev cX11_leastSize : ByteArray := prog_13_method_69_code
def yX11_leastSize : MethodName := ⟨RX11, "leastSize", "(I)I"⟩
abbrev cX11_fillsWants : ByteArray := prog_13_method_70_code
def yX11_fillsWants : MethodName := ⟨RX11, "fillsWants", "()V"⟩
abbrev cX11_isFit : ByteArray := prog_13_method_71_code
def yX11_isFit : MethodName := ⟨RX11, "isFit", "(I)Z"⟩
abbrev cX11_leastGrief : ByteArray := prog_13_method_72_code
def yX11_leastGrief : MethodName := ⟨RX11, "leastGrief", "(I)I"⟩
abbrev cX11_findsGivers : ByteArray := prog_13_method_73_code
def yX11_findsGivers : MethodName := ⟨RX11, "findsGivers", "()Z"⟩
abbrev cX11_grief : ByteArray := prog_13_method_74_code
def yX11_grief : MethodName := ⟨RX11, "grief", "()I"⟩
abbrev cX11_gives : ByteArray := prog_13_method_75_code
def yX11_gives : MethodName := ⟨RX11, "gives", "(I)I"⟩
abbrev cX11_isOver : ByteArray := prog_13_method_76_code
def yX11_isOver : MethodName := ⟨RX11, "isOver", "()Z"⟩
abbrev cX11_isOverBy : ByteArray := prog_13_method_77_code
def yX11_isOverBy : MethodName := ⟨RX11, "isOverBy", "(I)Z"⟩
abbrev cX11_needed : ByteArray := prog_13_method_78_code
def yX11_needed : MethodName := ⟨RX11, "needed", "()I"⟩
abbrev cX11_alone : ByteArray := prog_13_method_79_code
def yX11_alone : MethodName := ⟨RX11, "alone", "()I"⟩
abbrev cX11_breaks : ByteArray := prog_13_method_80_code
def yX11_breaks : MethodName := ⟨RX11, "breaks", "()I"⟩
abbrev cX11_finds : ByteArray := prog_13_method_81_code
def yX11_finds : MethodName := ⟨RX11, "finds", "(II)V"⟩
abbrev cX11_findsIn : ByteArray := prog_13_method_82_code
def yX11_findsIn : MethodName := ⟨RX11, "findsIn", "(I)V"⟩
abbrev cX11_findsOut : ByteArray := prog_13_method_83_code
def yX11_findsOut : MethodName := ⟨RX11, "findsOut", "(I)V"⟩
abbrev cX11_oneMore : ByteArray := prog_13_method_84_code
def yX11_oneMore : MethodName := ⟨RX11, "oneMore", "()Z"⟩
abbrev cX11_turns : ByteArray := prog_13_method_85_code
def yX11_turns : MethodName := ⟨RX11, "turns", "(I)V"⟩
abbrev cX11_fords : ByteArray := prog_13_method_86_code
def yX11_fords : MethodName := ⟨RX11, "fords", "()I"⟩
abbrev cX11_tell_ : ByteArray := prog_13_method_87_code
def yX11_tell_ : MethodName := ⟨RX11, "tell", "(III)I"⟩
abbrev cX11_forget : ByteArray := prog_13_method_88_code
def yX11_forget : MethodName := ⟨RX11, "forget", "()I"⟩
abbrev cX11_isSo : ByteArray := prog_13_method_89_code
def yX11_isSo : MethodName := ⟨RX11, "isSo", "(IIIII)Z"⟩
abbrev cX11_fits : ByteArray := prog_13_method_90_code
def yX11_fits : MethodName := ⟨RX11, "fits", "(IIII)I"⟩
abbrev cX11_hold : ByteArray := prog_13_method_91_code
def yX11_hold : MethodName := ⟨RX11, "hold", "(I)Z"⟩
abbrev cX11_restore : ByteArray := prog_13_method_92_code
def yX11_restore : MethodName := ⟨RX11, "restore", "(I)Z"⟩
abbrev cX11_count : ByteArray := prog_13_method_93_code
def yX11_count : MethodName := ⟨RX11, "count", "(I)I"⟩
def RJ11 : String := "java/lang/Character"
abbrev cJ11_isValidCodePoint_9a6ad : ByteArray := prog_14_method_11_code
def yJ11_isValidCodePoint_9a6ad : MethodName := ⟨RJ11, "isValidCodePoint", "(I)Z"⟩
abbrev cJ11_highSurrogate_5068e : ByteArray := prog_14_method_28_code
def yJ11_highSurrogate_5068e : MethodName := ⟨RJ11, "highSurrogate", "(I)C"⟩
abbrev cJ11_lowSurrogate_5068e : ByteArray := prog_14_method_29_code
def yJ11_lowSurrogate_5068e : MethodName := ⟨RJ11, "lowSurrogate", "(I)C"⟩
def RJ9 : String := "java/lang/Math"
abbrev cJ9_abs_0f7a4 : ByteArray := prog_15_method_59_code
def yJ9_abs_0f7a4 : MethodName := ⟨RJ9, "abs", "(I)I"⟩
abbrev cJ9_max_7cf53 : ByteArray := prog_15_method_65_code
def yJ9_max_7cf53 : MethodName := ⟨RJ9, "max", "(II)I"⟩
abbrev cJ9_min_7cf53 : ByteArray := prog_15_method_69_code
def yJ9_min_7cf53 : MethodName := ⟨RJ9, "min", "(II)I"⟩
def RJ0 : String := "java/lang/String"
abbrev cJ0_length_8abf5 : ByteArray := prog_16_method_54_code
def yJ0_length_8abf5 : MethodName := ⟨RJ0, "length", "()I"⟩
abbrev cJ0_charAt_5068e : ByteArray := prog_16_method_56_code
def yJ0_charAt_5068e : MethodName := ⟨RJ0, "charAt", "(I)C"⟩
abbrev cJ0_indexOf_0f7a4 : ByteArray := prog_16_method_79_code
def yJ0_indexOf_0f7a4 : MethodName := ⟨RJ0, "indexOf", "(I)I"⟩
abbrev cJ0_indexOf_7cf53 : ByteArray := prog_16_method_80_code
def yJ0_indexOf_7cf53 : MethodName := ⟨RJ0, "indexOf", "(II)I"⟩
abbrev cJ0_coder_7d493 : ByteArray := prog_16_method_152_code
def yJ0_coder_7d493 : MethodName := ⟨RJ0, "coder", "()B"⟩
abbrev cJ0_isLatin1_aae02 : ByteArray := prog_16_method_154_code
def yJ0_isLatin1_aae02 : MethodName := ⟨RJ0, "isLatin1", "()Z"⟩
abbrev cJ0_checkIndex_df160 : ByteArray := prog_16_method_155_code
def yJ0_checkIndex_df160 : MethodName := ⟨RJ0, "checkIndex", "(II)V"⟩
abbrev cJ0_checkBoundsBeginEnd_23922 : ByteArray := prog_16_method_158_code
def yJ0_checkBoundsBeginEnd_23922 : MethodName := ⟨RJ0, "checkBoundsBeginEnd", "(III)V"⟩
def RJ1 : String := "java/lang/StringLatin1"
abbrev cJ1_charAt_3b067 : ByteArray := prog_17_method_2_code
def yJ1_charAt_3b067 : MethodName := ⟨RJ1, "charAt", "([BI)C"⟩
abbrev cJ1_canEncode_9a6ad : ByteArray := prog_17_method_4_code
def yJ1_canEncode_9a6ad : MethodName := ⟨RJ1, "canEncode", "(I)Z"⟩
abbrev cJ1_indexOf_4cfef : ByteArray := prog_17_method_22_code
def yJ1_indexOf_4cfef : MethodName := ⟨RJ1, "indexOf", "([BIII)I"⟩
abbrev cJ1_indexOfChar_4cfef : ByteArray := prog_17_method_23_code
def yJ1_indexOfChar_4cfef : MethodName := ⟨RJ1, "indexOfChar", "([BIII)I"⟩
def RJ2 : String := "java/lang/StringUTF16"
abbrev cJ2_getChar_3b067 : ByteArray := prog_18_method_5_code
def yJ2_getChar_3b067 : MethodName := ⟨RJ2, "getChar", "([BI)C"⟩
abbrev cJ2_length_9d52b : ByteArray := prog_18_method_6_code
def yJ2_length_9d52b : MethodName := ⟨RJ2, "length", "([B)I"⟩
abbrev cJ2_indexOf_4cfef : ByteArray := prog_18_method_40_code
def yJ2_indexOf_4cfef : MethodName := ⟨RJ2, "indexOf", "([BIII)I"⟩
abbrev cJ2_indexOfChar_4cfef : ByteArray := prog_18_method_47_code
def yJ2_indexOfChar_4cfef : MethodName := ⟨RJ2, "indexOfChar", "([BIII)I"⟩
abbrev cJ2_indexOfCharUnsafe_4cfef : ByteArray := prog_18_method_48_code
def yJ2_indexOfCharUnsafe_4cfef : MethodName := ⟨RJ2, "indexOfCharUnsafe", "([BIII)I"⟩
abbrev cJ2_indexOfSupplementary_4cfef : ByteArray := prog_18_method_49_code
def yJ2_indexOfSupplementary_4cfef : MethodName := ⟨RJ2, "indexOfSupplementary", "([BIII)I"⟩
abbrev cJ2_charAt_3b067 : ByteArray := prog_18_method_83_code
def yJ2_charAt_3b067 : MethodName := ⟨RJ2, "charAt", "([BI)C"⟩
abbrev cJ2_checkIndex_2214a : ByteArray := prog_18_method_91_code
def yJ2_checkIndex_2214a : MethodName := ⟨RJ2, "checkIndex", "(I[B)V"⟩
abbrev cJ2_checkBoundsBeginEnd_d044e : ByteArray := prog_18_method_93_code
def yJ2_checkBoundsBeginEnd_d044e : MethodName := ⟨RJ2, "checkBoundsBeginEnd", "(II[B)V"⟩
def RJ10 : String := "java/lang/System"
def RJ7 : String := "java/util/Arrays"
abbrev cJ7_fill_53178 : ByteArray := prog_20_method_103_code
def yJ7_fill_53178 : MethodName := ⟨RJ7, "fill", "([II)V"⟩
def RJ3 : String := "jdk/internal/util/Preconditions"
abbrev cJ3_checkIndex_8e157 : ByteArray := prog_21_method_11_code
def yJ3_checkIndex_8e157 : MethodName := ⟨RJ3, "checkIndex", "(IILjava/util/function/BiFunction;)I"⟩
abbrev cJ3_checkFromToIndex_8c36e : ByteArray := prog_21_method_12_code
def yJ3_checkFromToIndex_8c36e : MethodName := ⟨RJ3, "checkFromToIndex", "(IIILjava/util/function/BiFunction;)I"⟩
abbrev vwCl : List vw_C := [(RX0, TX0, 7), (RX1, TX1, 5), (RX2, TX2, 13), (RX3, TX3, 5), (RX4, TX4, 3), (RX5, TX5, 8), (RX6, TX6, 15), (RX7, TX7, 2), (RX8, TX8, 4), (RX9, TX9, 6), (RX10, TX10, 16), (RX11, TX11, 81)]
set_option maxRecDepth 100000 in
theorem inX0 : ∀ w ∈ wsX00, w ∈ lw_tbl := by decide +kernel
set_option maxRecDepth 100000 in
theorem inX1 : ∀ w ∈ wsX10, w ∈ lw_tbl := by decide +kernel
set_option maxRecDepth 100000 in
theorem inX2 : ∀ w ∈ wsX20, w ∈ lw_tbl := by decide +kernel
set_option maxRecDepth 100000 in
theorem inX3 : ∀ w ∈ wsX30, w ∈ lw_tbl := by decide +kernel
set_option maxRecDepth 100000 in
theorem inX4 : ∀ w ∈ wsX40, w ∈ lw_tbl := by decide +kernel
set_option maxRecDepth 100000 in
theorem inX5 : ∀ w ∈ wsX50, w ∈ lw_tbl := by decide +kernel
set_option maxRecDepth 100000 in
theorem inX6 : ∀ w ∈ wsX60, w ∈ lw_tbl := by decide +kernel
set_option maxRecDepth 100000 in
theorem inX7 : ∀ w ∈ wsX70, w ∈ lw_tbl := by decide +kernel
set_option maxRecDepth 100000 in
theorem inX8 : ∀ w ∈ wsX80, w ∈ lw_tbl := by decide +kernel
set_option maxRecDepth 100000 in
theorem inX9 : ∀ w ∈ wsX90, w ∈ lw_tbl := by decide +kernel
set_option maxRecDepth 100000 in
theorem inX10 : ∀ w ∈ wsX100, w ∈ lw_tbl := by decide +kernel
set_option maxRecDepth 100000 in
theorem inX11 : ∀ w ∈ wsX110, w ∈ lw_tbl := by decide +kernel
