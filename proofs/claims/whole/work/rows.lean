section
-- ===== PART A: goes FIRST, ahead of the names: the tables' words, and 'selects' of the private methods out of them =====
/-- a private method of a class that the tables say can be made, by its rows of tables_1 -/
def lw_okq (q : MethodName × Nat) : Prop := (q.1.cls ≠ "java/lang/invoke/MethodHandle" ∧ q.1.cls ≠ "java/lang/invoke/VarHandle") ∧ Cond.instantiable q.1.cls q.2 ∈ tables_1 ∧ Cond.privateMethod q.1 ∈ tables_1 ∧ Cond.instanceMethod q.1 ∈ tables_1
theorem lw_p0 : lw_okq (⟨"ChannelRouter$RingSearch", "toldAt", "(I)I"⟩, 4) := ⟨⟨by decide +kernel, by decide +kernel⟩, List.mem_of_getElem? (i := 43) (by decide +kernel), List.mem_of_getElem? (i := 131) (by decide +kernel), List.mem_of_getElem? (i := 132) (by decide +kernel)⟩
theorem lw_p1 : lw_okq (⟨"ChannelRouter$Pins", "longNetsAt", "(I)I"⟩, 2) := ⟨⟨by decide +kernel, by decide +kernel⟩, List.mem_of_getElem? (i := 25) (by decide +kernel), List.mem_of_getElem? (i := 139) (by decide +kernel), List.mem_of_getElem? (i := 140) (by decide +kernel)⟩
theorem lw_p2 : lw_okq (⟨"ChannelRouter$Pins", "isLong", "(I)Z"⟩, 2) := ⟨⟨by decide +kernel, by decide +kernel⟩, List.mem_of_getElem? (i := 25) (by decide +kernel), List.mem_of_getElem? (i := 143) (by decide +kernel), List.mem_of_getElem? (i := 144) (by decide +kernel)⟩
theorem lw_p3 : lw_okq (⟨"ChannelRouter$Pins", "kindOf", "(I)I"⟩, 2) := ⟨⟨by decide +kernel, by decide +kernel⟩, List.mem_of_getElem? (i := 25) (by decide +kernel), List.mem_of_getElem? (i := 147) (by decide +kernel), List.mem_of_getElem? (i := 148) (by decide +kernel)⟩
theorem lw_p4 : lw_okq (⟨"ChannelRouter$Pins", "pinsOf", "(I)I"⟩, 2) := ⟨⟨by decide +kernel, by decide +kernel⟩, List.mem_of_getElem? (i := 25) (by decide +kernel), List.mem_of_getElem? (i := 151) (by decide +kernel), List.mem_of_getElem? (i := 152) (by decide +kernel)⟩
theorem lw_p5 : lw_okq (⟨"ChannelRouter$Pins", "firstColumn", "(I)I"⟩, 2) := ⟨⟨by decide +kernel, by decide +kernel⟩, List.mem_of_getElem? (i := 25) (by decide +kernel), List.mem_of_getElem? (i := 155) (by decide +kernel), List.mem_of_getElem? (i := 156) (by decide +kernel)⟩
theorem lw_p6 : lw_okq (⟨"ChannelRouter$Pins", "has", "(II)Z"⟩, 2) := ⟨⟨by decide +kernel, by decide +kernel⟩, List.mem_of_getElem? (i := 25) (by decide +kernel), List.mem_of_getElem? (i := 159) (by decide +kernel), List.mem_of_getElem? (i := 160) (by decide +kernel)⟩
theorem lw_p7 : lw_okq (⟨"ChannelRouter$Pins", "lastColumn", "(I)I"⟩, 2) := ⟨⟨by decide +kernel, by decide +kernel⟩, List.mem_of_getElem? (i := 25) (by decide +kernel), List.mem_of_getElem? (i := 163) (by decide +kernel), List.mem_of_getElem? (i := 164) (by decide +kernel)⟩
theorem lw_p8 : lw_okq (⟨"ChannelRouter$Plan", "draw", "(LChannelRouter$Pins;Z)V"⟩, 9) := ⟨⟨by decide +kernel, by decide +kernel⟩, List.mem_of_getElem? (i := 63) (by decide +kernel), List.mem_of_getElem? (i := 174) (by decide +kernel), List.mem_of_getElem? (i := 175) (by decide +kernel)⟩
theorem lw_p9 : lw_okq (⟨"ChannelRouter$Plan", "clear", "()V"⟩, 9) := ⟨⟨by decide +kernel, by decide +kernel⟩, List.mem_of_getElem? (i := 63) (by decide +kernel), List.mem_of_getElem? (i := 178) (by decide +kernel), List.mem_of_getElem? (i := 179) (by decide +kernel)⟩
theorem lw_p10 : lw_okq (⟨"ChannelRouter$Plan", "addPieces", "(LChannelRouter$Pins;I)V"⟩, 9) := ⟨⟨by decide +kernel, by decide +kernel⟩, List.mem_of_getElem? (i := 63) (by decide +kernel), List.mem_of_getElem? (i := 183) (by decide +kernel), List.mem_of_getElem? (i := 184) (by decide +kernel)⟩
theorem lw_p11 : lw_okq (⟨"ChannelRouter$Plan", "add", "(IIII)V"⟩, 9) := ⟨⟨by decide +kernel, by decide +kernel⟩, List.mem_of_getElem? (i := 63) (by decide +kernel), List.mem_of_getElem? (i := 188) (by decide +kernel), List.mem_of_getElem? (i := 189) (by decide +kernel)⟩
theorem lw_p12 : lw_okq (⟨"ChannelRouter$Plan", "addWhole", "(LChannelRouter$Pins;I)V"⟩, 9) := ⟨⟨by decide +kernel, by decide +kernel⟩, List.mem_of_getElem? (i := 63) (by decide +kernel), List.mem_of_getElem? (i := 192) (by decide +kernel), List.mem_of_getElem? (i := 193) (by decide +kernel)⟩
theorem lw_p13 : lw_okq (⟨"ChannelRouter$Plan", "findBelow", "(LChannelRouter$Pins;)V"⟩, 9) := ⟨⟨by decide +kernel, by decide +kernel⟩, List.mem_of_getElem? (i := 63) (by decide +kernel), List.mem_of_getElem? (i := 198) (by decide +kernel), List.mem_of_getElem? (i := 199) (by decide +kernel)⟩
theorem lw_p14 : lw_okq (⟨"ChannelRouter$Plan", "touching", "(II)J"⟩, 9) := ⟨⟨by decide +kernel, by decide +kernel⟩, List.mem_of_getElem? (i := 63) (by decide +kernel), List.mem_of_getElem? (i := 205) (by decide +kernel), List.mem_of_getElem? (i := 206) (by decide +kernel)⟩
theorem lw_p15 : lw_okq (⟨"ChannelRouter$Plan", "touches", "(III)Z"⟩, 9) := ⟨⟨by decide +kernel, by decide +kernel⟩, List.mem_of_getElem? (i := 63) (by decide +kernel), List.mem_of_getElem? (i := 209) (by decide +kernel), List.mem_of_getElem? (i := 210) (by decide +kernel)⟩
def lw_privs_1 : List (MethodName × Nat) := [(⟨"ChannelRouter$RingSearch", "toldAt", "(I)I"⟩, 4), (⟨"ChannelRouter$Pins", "longNetsAt", "(I)I"⟩, 2), (⟨"ChannelRouter$Pins", "isLong", "(I)Z"⟩, 2), (⟨"ChannelRouter$Pins", "kindOf", "(I)I"⟩, 2), (⟨"ChannelRouter$Pins", "pinsOf", "(I)I"⟩, 2), (⟨"ChannelRouter$Pins", "firstColumn", "(I)I"⟩, 2), (⟨"ChannelRouter$Pins", "has", "(II)Z"⟩, 2), (⟨"ChannelRouter$Pins", "lastColumn", "(I)I"⟩, 2), (⟨"ChannelRouter$Plan", "draw", "(LChannelRouter$Pins;Z)V"⟩, 9), (⟨"ChannelRouter$Plan", "clear", "()V"⟩, 9), (⟨"ChannelRouter$Plan", "addPieces", "(LChannelRouter$Pins;I)V"⟩, 9), (⟨"ChannelRouter$Plan", "add", "(IIII)V"⟩, 9), (⟨"ChannelRouter$Plan", "addWhole", "(LChannelRouter$Pins;I)V"⟩, 9), (⟨"ChannelRouter$Plan", "findBelow", "(LChannelRouter$Pins;)V"⟩, 9), (⟨"ChannelRouter$Plan", "touching", "(II)J"⟩, 9), (⟨"ChannelRouter$Plan", "touches", "(III)Z"⟩, 9)]
theorem lw_r1 : ∀ q ∈ lw_privs_1, lw_okq q := List.forall_mem_cons.mpr ⟨lw_p0, List.forall_mem_cons.mpr ⟨lw_p1, List.forall_mem_cons.mpr ⟨lw_p2, List.forall_mem_cons.mpr ⟨lw_p3, List.forall_mem_cons.mpr ⟨lw_p4, List.forall_mem_cons.mpr ⟨lw_p5, List.forall_mem_cons.mpr ⟨lw_p6, List.forall_mem_cons.mpr ⟨lw_p7, List.forall_mem_cons.mpr ⟨lw_p8, List.forall_mem_cons.mpr ⟨lw_p9, List.forall_mem_cons.mpr ⟨lw_p10, List.forall_mem_cons.mpr ⟨lw_p11, List.forall_mem_cons.mpr ⟨lw_p12, List.forall_mem_cons.mpr ⟨lw_p13, List.forall_mem_cons.mpr ⟨lw_p14, List.forall_mem_cons.mpr ⟨lw_p15, fun _ h => absurd h List.not_mem_nil⟩⟩⟩⟩⟩⟩⟩⟩⟩⟩⟩⟩⟩⟩⟩⟩
theorem lw_p16 : lw_okq (⟨"ChannelRouter$Plan", "addBelow", "(JJ)V"⟩, 9) := ⟨⟨by decide +kernel, by decide +kernel⟩, List.mem_of_getElem? (i := 63) (by decide +kernel), List.mem_of_getElem? (i := 213) (by decide +kernel), List.mem_of_getElem? (i := 214) (by decide +kernel)⟩
theorem lw_p17 : lw_okq (⟨"ChannelRouter$Plan", "countPairs", "()I"⟩, 9) := ⟨⟨by decide +kernel, by decide +kernel⟩, List.mem_of_getElem? (i := 63) (by decide +kernel), List.mem_of_getElem? (i := 220) (by decide +kernel), List.mem_of_getElem? (i := 221) (by decide +kernel)⟩
theorem lw_p18 : lw_okq (⟨"ChannelRouter$Plan", "countPoints", "()I"⟩, 9) := ⟨⟨by decide +kernel, by decide +kernel⟩, List.mem_of_getElem? (i := 63) (by decide +kernel), List.mem_of_getElem? (i := 234) (by decide +kernel), List.mem_of_getElem? (i := 235) (by decide +kernel)⟩
theorem lw_p19 : lw_okq (⟨"ChannelRouter$Plan", "netOn", "(II)I"⟩, 9) := ⟨⟨by decide +kernel, by decide +kernel⟩, List.mem_of_getElem? (i := 63) (by decide +kernel), List.mem_of_getElem? (i := 238) (by decide +kernel), List.mem_of_getElem? (i := 239) (by decide +kernel)⟩
theorem lw_p20 : lw_okq (⟨"java/lang/Throwable", "fillInStackTrace", "(I)Ljava/lang/Throwable;"⟩, 6) := ⟨⟨by decide +kernel, by decide +kernel⟩, List.mem_of_getElem? (i := 292) (by decide +kernel), List.mem_of_getElem? (i := 290) (by decide +kernel), List.mem_of_getElem? (i := 291) (by decide +kernel)⟩
theorem lw_p21 : lw_okq (⟨"ChannelRouter$Pins", "put", "(IZI)I"⟩, 2) := ⟨⟨by decide +kernel, by decide +kernel⟩, List.mem_of_getElem? (i := 25) (by decide +kernel), List.mem_of_getElem? (i := 342) (by decide +kernel), List.mem_of_getElem? (i := 343) (by decide +kernel)⟩
theorem lw_p22 : lw_okq (⟨"ChannelRouter$Pins", "anySingle", "()Z"⟩, 2) := ⟨⟨by decide +kernel, by decide +kernel⟩, List.mem_of_getElem? (i := 25) (by decide +kernel), List.mem_of_getElem? (i := 354) (by decide +kernel), List.mem_of_getElem? (i := 355) (by decide +kernel)⟩
theorem lw_p23 : lw_okq (⟨"ChannelRouter", "draftHasRing", "(Z)Z"⟩, 7) := ⟨⟨by decide +kernel, by decide +kernel⟩, List.mem_of_getElem? (i := 17) (by decide +kernel), List.mem_of_getElem? (i := 359) (by decide +kernel), List.mem_of_getElem? (i := 360) (by decide +kernel)⟩
theorem lw_p24 : lw_okq (⟨"ChannelRouter$RingSearch", "lowestInRing", "(LChannelRouter$Plan;)I"⟩, 4) := ⟨⟨by decide +kernel, by decide +kernel⟩, List.mem_of_getElem? (i := 43) (by decide +kernel), List.mem_of_getElem? (i := 363) (by decide +kernel), List.mem_of_getElem? (i := 364) (by decide +kernel)⟩
theorem lw_p25 : lw_okq (⟨"ChannelRouter$RingSearch", "findReach", "(LChannelRouter$Plan;)V"⟩, 4) := ⟨⟨by decide +kernel, by decide +kernel⟩, List.mem_of_getElem? (i := 43) (by decide +kernel), List.mem_of_getElem? (i := 367) (by decide +kernel), List.mem_of_getElem? (i := 368) (by decide +kernel)⟩
theorem lw_p26 : lw_okq (⟨"ChannelRouter", "tellRingOfDraft", "()V"⟩, 7) := ⟨⟨by decide +kernel, by decide +kernel⟩, List.mem_of_getElem? (i := 17) (by decide +kernel), List.mem_of_getElem? (i := 375) (by decide +kernel), List.mem_of_getElem? (i := 376) (by decide +kernel)⟩
theorem lw_p27 : lw_okq (⟨"ChannelRouter$RingSearch", "tell", "(LChannelRouter$Plan;)V"⟩, 4) := ⟨⟨by decide +kernel, by decide +kernel⟩, List.mem_of_getElem? (i := 43) (by decide +kernel), List.mem_of_getElem? (i := 379) (by decide +kernel), List.mem_of_getElem? (i := 380) (by decide +kernel)⟩
theorem lw_p28 : lw_okq (⟨"ChannelRouter$RingSearch", "countStepsTo", "(LChannelRouter$Plan;I)V"⟩, 4) := ⟨⟨by decide +kernel, by decide +kernel⟩, List.mem_of_getElem? (i := 43) (by decide +kernel), List.mem_of_getElem? (i := 384) (by decide +kernel), List.mem_of_getElem? (i := 385) (by decide +kernel)⟩
theorem lw_p29 : lw_okq (⟨"ChannelRouter$RingSearch", "nearestBelow", "(LChannelRouter$Plan;I)I"⟩, 4) := ⟨⟨by decide +kernel, by decide +kernel⟩, List.mem_of_getElem? (i := 43) (by decide +kernel), List.mem_of_getElem? (i := 391) (by decide +kernel), List.mem_of_getElem? (i := 392) (by decide +kernel)⟩
theorem lw_p30 : lw_okq (⟨"ChannelRouter", "keepDraft", "()V"⟩, 7) := ⟨⟨by decide +kernel, by decide +kernel⟩, List.mem_of_getElem? (i := 17) (by decide +kernel), List.mem_of_getElem? (i := 411) (by decide +kernel), List.mem_of_getElem? (i := 412) (by decide +kernel)⟩
theorem lw_p31 : lw_okq (⟨"ChannelRouter$Plan", "fillTracks", "()V"⟩, 9) := ⟨⟨by decide +kernel, by decide +kernel⟩, List.mem_of_getElem? (i := 63) (by decide +kernel), List.mem_of_getElem? (i := 415) (by decide +kernel), List.mem_of_getElem? (i := 416) (by decide +kernel)⟩
def lw_privs_2 : List (MethodName × Nat) := [(⟨"ChannelRouter$Plan", "addBelow", "(JJ)V"⟩, 9), (⟨"ChannelRouter$Plan", "countPairs", "()I"⟩, 9), (⟨"ChannelRouter$Plan", "countPoints", "()I"⟩, 9), (⟨"ChannelRouter$Plan", "netOn", "(II)I"⟩, 9), (⟨"java/lang/Throwable", "fillInStackTrace", "(I)Ljava/lang/Throwable;"⟩, 6), (⟨"ChannelRouter$Pins", "put", "(IZI)I"⟩, 2), (⟨"ChannelRouter$Pins", "anySingle", "()Z"⟩, 2), (⟨"ChannelRouter", "draftHasRing", "(Z)Z"⟩, 7), (⟨"ChannelRouter$RingSearch", "lowestInRing", "(LChannelRouter$Plan;)I"⟩, 4), (⟨"ChannelRouter$RingSearch", "findReach", "(LChannelRouter$Plan;)V"⟩, 4), (⟨"ChannelRouter", "tellRingOfDraft", "()V"⟩, 7), (⟨"ChannelRouter$RingSearch", "tell", "(LChannelRouter$Plan;)V"⟩, 4), (⟨"ChannelRouter$RingSearch", "countStepsTo", "(LChannelRouter$Plan;I)V"⟩, 4), (⟨"ChannelRouter$RingSearch", "nearestBelow", "(LChannelRouter$Plan;I)I"⟩, 4), (⟨"ChannelRouter", "keepDraft", "()V"⟩, 7), (⟨"ChannelRouter$Plan", "fillTracks", "()V"⟩, 9)]
theorem lw_r2 : ∀ q ∈ lw_privs_2, lw_okq q := List.forall_mem_cons.mpr ⟨lw_p16, List.forall_mem_cons.mpr ⟨lw_p17, List.forall_mem_cons.mpr ⟨lw_p18, List.forall_mem_cons.mpr ⟨lw_p19, List.forall_mem_cons.mpr ⟨lw_p20, List.forall_mem_cons.mpr ⟨lw_p21, List.forall_mem_cons.mpr ⟨lw_p22, List.forall_mem_cons.mpr ⟨lw_p23, List.forall_mem_cons.mpr ⟨lw_p24, List.forall_mem_cons.mpr ⟨lw_p25, List.forall_mem_cons.mpr ⟨lw_p26, List.forall_mem_cons.mpr ⟨lw_p27, List.forall_mem_cons.mpr ⟨lw_p28, List.forall_mem_cons.mpr ⟨lw_p29, List.forall_mem_cons.mpr ⟨lw_p30, List.forall_mem_cons.mpr ⟨lw_p31, fun _ h => absurd h List.not_mem_nil⟩⟩⟩⟩⟩⟩⟩⟩⟩⟩⟩⟩⟩⟩⟩⟩
theorem lw_p32 : lw_okq (⟨"ChannelRouter$Plan", "sortByLeft", "()V"⟩, 9) := ⟨⟨by decide +kernel, by decide +kernel⟩, List.mem_of_getElem? (i := 63) (by decide +kernel), List.mem_of_getElem? (i := 419) (by decide +kernel), List.mem_of_getElem? (i := 420) (by decide +kernel)⟩
theorem lw_p33 : lw_okq (⟨"ChannelRouter$Plan", "belowAnyOf", "(J)J"⟩, 9) := ⟨⟨by decide +kernel, by decide +kernel⟩, List.mem_of_getElem? (i := 63) (by decide +kernel), List.mem_of_getElem? (i := 423) (by decide +kernel), List.mem_of_getElem? (i := 424) (by decide +kernel)⟩
theorem lw_p34 : lw_okq (⟨"ChannelRouter$Plan", "fillTrack", "(J)J"⟩, 9) := ⟨⟨by decide +kernel, by decide +kernel⟩, List.mem_of_getElem? (i := 63) (by decide +kernel), List.mem_of_getElem? (i := 428) (by decide +kernel), List.mem_of_getElem? (i := 429) (by decide +kernel)⟩
theorem lw_p35 : lw_okq (⟨"ChannelRouter$Plan", "fitsBehind", "(II)Z"⟩, 9) := ⟨⟨by decide +kernel, by decide +kernel⟩, List.mem_of_getElem? (i := 63) (by decide +kernel), List.mem_of_getElem? (i := 432) (by decide +kernel), List.mem_of_getElem? (i := 433) (by decide +kernel)⟩
theorem lw_p36 : lw_okq (⟨"ChannelRouter", "isTrack", "(I)Z"⟩, 7) := ⟨⟨by decide +kernel, by decide +kernel⟩, List.mem_of_getElem? (i := 17) (by decide +kernel), List.mem_of_getElem? (i := 460) (by decide +kernel), List.mem_of_getElem? (i := 461) (by decide +kernel)⟩
theorem lw_p37 : lw_okq (⟨"ChannelRouter", "uprightNet", "(II)I"⟩, 7) := ⟨⟨by decide +kernel, by decide +kernel⟩, List.mem_of_getElem? (i := 17) (by decide +kernel), List.mem_of_getElem? (i := 474) (by decide +kernel), List.mem_of_getElem? (i := 475) (by decide +kernel)⟩
theorem lw_p38 : lw_okq (⟨"ChannelRouter$Plan", "greatestTrack", "(II)I"⟩, 9) := ⟨⟨by decide +kernel, by decide +kernel⟩, List.mem_of_getElem? (i := 63) (by decide +kernel), List.mem_of_getElem? (i := 478) (by decide +kernel), List.mem_of_getElem? (i := 479) (by decide +kernel)⟩
theorem lw_p39 : lw_okq (⟨"ChannelRouter$Plan", "leastTrack", "(II)I"⟩, 9) := ⟨⟨by decide +kernel, by decide +kernel⟩, List.mem_of_getElem? (i := 63) (by decide +kernel), List.mem_of_getElem? (i := 483) (by decide +kernel), List.mem_of_getElem? (i := 484) (by decide +kernel)⟩
theorem lw_p40 : lw_okq (⟨"ChannelRouter", "isVia", "(II)Z"⟩, 7) := ⟨⟨by decide +kernel, by decide +kernel⟩, List.mem_of_getElem? (i := 17) (by decide +kernel), List.mem_of_getElem? (i := 497) (by decide +kernel), List.mem_of_getElem? (i := 498) (by decide +kernel)⟩
theorem lw_p41 : lw_okq (⟨"ChannelRouter$Plan", "touchesOn", "(III)Z"⟩, 9) := ⟨⟨by decide +kernel, by decide +kernel⟩, List.mem_of_getElem? (i := 63) (by decide +kernel), List.mem_of_getElem? (i := 501) (by decide +kernel), List.mem_of_getElem? (i := 502) (by decide +kernel)⟩
theorem lw_p42 : lw_okq (⟨"ChannelRouter", "countVias", "()I"⟩, 7) := ⟨⟨by decide +kernel, by decide +kernel⟩, List.mem_of_getElem? (i := 17) (by decide +kernel), List.mem_of_getElem? (i := 524) (by decide +kernel), List.mem_of_getElem? (i := 525) (by decide +kernel)⟩
theorem lw_p43 : lw_okq (⟨"ChannelRouterModel", "anySingle", "()Z"⟩, 23) := ⟨⟨by decide +kernel, by decide +kernel⟩, List.mem_of_getElem? (i := 528) (by decide +kernel), List.mem_of_getElem? (i := 619) (by decide +kernel), List.mem_of_getElem? (i := 620) (by decide +kernel)⟩
theorem lw_p44 : lw_okq (⟨"ChannelRouterModel", "sort", "(I)I"⟩, 23) := ⟨⟨by decide +kernel, by decide +kernel⟩, List.mem_of_getElem? (i := 528) (by decide +kernel), List.mem_of_getElem? (i := 623) (by decide +kernel), List.mem_of_getElem? (i := 624) (by decide +kernel)⟩
theorem lw_p45 : lw_okq (⟨"ChannelRouterModel", "pinsOf", "(I)I"⟩, 23) := ⟨⟨by decide +kernel, by decide +kernel⟩, List.mem_of_getElem? (i := 528) (by decide +kernel), List.mem_of_getElem? (i := 627) (by decide +kernel), List.mem_of_getElem? (i := 628) (by decide +kernel)⟩
theorem lw_p46 : lw_okq (⟨"ChannelRouterModel", "columns", "(I)I"⟩, 23) := ⟨⟨by decide +kernel, by decide +kernel⟩, List.mem_of_getElem? (i := 528) (by decide +kernel), List.mem_of_getElem? (i := 631) (by decide +kernel), List.mem_of_getElem? (i := 632) (by decide +kernel)⟩
theorem lw_p47 : lw_okq (⟨"ChannelRouterModel", "fail", "(I)I"⟩, 23) := ⟨⟨by decide +kernel, by decide +kernel⟩, List.mem_of_getElem? (i := 528) (by decide +kernel), List.mem_of_getElem? (i := 641) (by decide +kernel), List.mem_of_getElem? (i := 642) (by decide +kernel)⟩
def lw_privs_3 : List (MethodName × Nat) := [(⟨"ChannelRouter$Plan", "sortByLeft", "()V"⟩, 9), (⟨"ChannelRouter$Plan", "belowAnyOf", "(J)J"⟩, 9), (⟨"ChannelRouter$Plan", "fillTrack", "(J)J"⟩, 9), (⟨"ChannelRouter$Plan", "fitsBehind", "(II)Z"⟩, 9), (⟨"ChannelRouter", "isTrack", "(I)Z"⟩, 7), (⟨"ChannelRouter", "uprightNet", "(II)I"⟩, 7), (⟨"ChannelRouter$Plan", "greatestTrack", "(II)I"⟩, 9), (⟨"ChannelRouter$Plan", "leastTrack", "(II)I"⟩, 9), (⟨"ChannelRouter", "isVia", "(II)Z"⟩, 7), (⟨"ChannelRouter$Plan", "touchesOn", "(III)Z"⟩, 9), (⟨"ChannelRouter", "countVias", "()I"⟩, 7), (⟨"ChannelRouterModel", "anySingle", "()Z"⟩, 23), (⟨"ChannelRouterModel", "sort", "(I)I"⟩, 23), (⟨"ChannelRouterModel", "pinsOf", "(I)I"⟩, 23), (⟨"ChannelRouterModel", "columns", "(I)I"⟩, 23), (⟨"ChannelRouterModel", "fail", "(I)I"⟩, 23)]
theorem lw_r3 : ∀ q ∈ lw_privs_3, lw_okq q := List.forall_mem_cons.mpr ⟨lw_p32, List.forall_mem_cons.mpr ⟨lw_p33, List.forall_mem_cons.mpr ⟨lw_p34, List.forall_mem_cons.mpr ⟨lw_p35, List.forall_mem_cons.mpr ⟨lw_p36, List.forall_mem_cons.mpr ⟨lw_p37, List.forall_mem_cons.mpr ⟨lw_p38, List.forall_mem_cons.mpr ⟨lw_p39, List.forall_mem_cons.mpr ⟨lw_p40, List.forall_mem_cons.mpr ⟨lw_p41, List.forall_mem_cons.mpr ⟨lw_p42, List.forall_mem_cons.mpr ⟨lw_p43, List.forall_mem_cons.mpr ⟨lw_p44, List.forall_mem_cons.mpr ⟨lw_p45, List.forall_mem_cons.mpr ⟨lw_p46, List.forall_mem_cons.mpr ⟨lw_p47, fun _ h => absurd h List.not_mem_nil⟩⟩⟩⟩⟩⟩⟩⟩⟩⟩⟩⟩⟩⟩⟩⟩
theorem lw_p48 : lw_okq (⟨"ChannelRouterModel", "study", "(Z)I"⟩, 23) := ⟨⟨by decide +kernel, by decide +kernel⟩, List.mem_of_getElem? (i := 528) (by decide +kernel), List.mem_of_getElem? (i := 645) (by decide +kernel), List.mem_of_getElem? (i := 646) (by decide +kernel)⟩
theorem lw_p49 : lw_okq (⟨"ChannelRouterModel", "makeSegments", "(Z)V"⟩, 23) := ⟨⟨by decide +kernel, by decide +kernel⟩, List.mem_of_getElem? (i := 528) (by decide +kernel), List.mem_of_getElem? (i := 649) (by decide +kernel), List.mem_of_getElem? (i := 650) (by decide +kernel)⟩
theorem lw_p50 : lw_okq (⟨"ChannelRouterModel", "segmentOf", "(IIII)V"⟩, 23) := ⟨⟨by decide +kernel, by decide +kernel⟩, List.mem_of_getElem? (i := 528) (by decide +kernel), List.mem_of_getElem? (i := 653) (by decide +kernel), List.mem_of_getElem? (i := 654) (by decide +kernel)⟩
theorem lw_p51 : lw_okq (⟨"ChannelRouterModel", "touching", "(III)Z"⟩, 23) := ⟨⟨by decide +kernel, by decide +kernel⟩, List.mem_of_getElem? (i := 528) (by decide +kernel), List.mem_of_getElem? (i := 657) (by decide +kernel), List.mem_of_getElem? (i := 658) (by decide +kernel)⟩
theorem lw_p52 : lw_okq (⟨"ChannelRouterModel", "noRing", "()Z"⟩, 23) := ⟨⟨by decide +kernel, by decide +kernel⟩, List.mem_of_getElem? (i := 528) (by decide +kernel), List.mem_of_getElem? (i := 661) (by decide +kernel), List.mem_of_getElem? (i := 662) (by decide +kernel)⟩
theorem lw_p53 : lw_okq (⟨"ChannelRouterModel", "inRing", "()I"⟩, 23) := ⟨⟨by decide +kernel, by decide +kernel⟩, List.mem_of_getElem? (i := 528) (by decide +kernel), List.mem_of_getElem? (i := 665) (by decide +kernel), List.mem_of_getElem? (i := 666) (by decide +kernel)⟩
theorem lw_p54 : lw_okq (⟨"ChannelRouterModel", "tellRing", "(I)V"⟩, 23) := ⟨⟨by decide +kernel, by decide +kernel⟩, List.mem_of_getElem? (i := 528) (by decide +kernel), List.mem_of_getElem? (i := 672) (by decide +kernel), List.mem_of_getElem? (i := 673) (by decide +kernel)⟩
theorem lw_p55 : lw_okq (⟨"ChannelRouterModel", "countSteps", "(I)V"⟩, 23) := ⟨⟨by decide +kernel, by decide +kernel⟩, List.mem_of_getElem? (i := 528) (by decide +kernel), List.mem_of_getElem? (i := 676) (by decide +kernel), List.mem_of_getElem? (i := 677) (by decide +kernel)⟩
theorem lw_p56 : lw_okq (⟨"ChannelRouterModel", "layNow", "()I"⟩, 23) := ⟨⟨by decide +kernel, by decide +kernel⟩, List.mem_of_getElem? (i := 528) (by decide +kernel), List.mem_of_getElem? (i := 680) (by decide +kernel), List.mem_of_getElem? (i := 681) (by decide +kernel)⟩
theorem lw_p57 : lw_okq (⟨"ChannelRouterModel", "fill", "()I"⟩, 23) := ⟨⟨by decide +kernel, by decide +kernel⟩, List.mem_of_getElem? (i := 528) (by decide +kernel), List.mem_of_getElem? (i := 684) (by decide +kernel), List.mem_of_getElem? (i := 685) (by decide +kernel)⟩
theorem lw_p58 : lw_okq (⟨"ChannelRouterModel", "nextFor", "(IIII)I"⟩, 23) := ⟨⟨by decide +kernel, by decide +kernel⟩, List.mem_of_getElem? (i := 528) (by decide +kernel), List.mem_of_getElem? (i := 688) (by decide +kernel), List.mem_of_getElem? (i := 689) (by decide +kernel)⟩
theorem lw_p59 : lw_okq (⟨"ChannelRouterModel", "free", "(II)Z"⟩, 23) := ⟨⟨by decide +kernel, by decide +kernel⟩, List.mem_of_getElem? (i := 528) (by decide +kernel), List.mem_of_getElem? (i := 692) (by decide +kernel), List.mem_of_getElem? (i := 693) (by decide +kernel)⟩
theorem lw_p60 : lw_okq (⟨"ChannelRouterModel", "out", "(Z)Z"⟩, 23) := ⟨⟨by decide +kernel, by decide +kernel⟩, List.mem_of_getElem? (i := 528) (by decide +kernel), List.mem_of_getElem? (i := 712) (by decide +kernel), List.mem_of_getElem? (i := 713) (by decide +kernel)⟩
theorem lw_p61 : lw_okq (⟨"ChannelRouterModel", "levelAt", "(II)I"⟩, 23) := ⟨⟨by decide +kernel, by decide +kernel⟩, List.mem_of_getElem? (i := 528) (by decide +kernel), List.mem_of_getElem? (i := 716) (by decide +kernel), List.mem_of_getElem? (i := 717) (by decide +kernel)⟩
theorem lw_p62 : lw_okq (⟨"ChannelRouterModel", "uprightAt", "(II)I"⟩, 23) := ⟨⟨by decide +kernel, by decide +kernel⟩, List.mem_of_getElem? (i := 528) (by decide +kernel), List.mem_of_getElem? (i := 724) (by decide +kernel), List.mem_of_getElem? (i := 725) (by decide +kernel)⟩
theorem lw_p63 : lw_okq (⟨"ChannelRouterModel", "lies", "(III)Z"⟩, 23) := ⟨⟨by decide +kernel, by decide +kernel⟩, List.mem_of_getElem? (i := 528) (by decide +kernel), List.mem_of_getElem? (i := 728) (by decide +kernel), List.mem_of_getElem? (i := 729) (by decide +kernel)⟩
def lw_privs_4 : List (MethodName × Nat) := [(⟨"ChannelRouterModel", "study", "(Z)I"⟩, 23), (⟨"ChannelRouterModel", "makeSegments", "(Z)V"⟩, 23), (⟨"ChannelRouterModel", "segmentOf", "(IIII)V"⟩, 23), (⟨"ChannelRouterModel", "touching", "(III)Z"⟩, 23), (⟨"ChannelRouterModel", "noRing", "()Z"⟩, 23), (⟨"ChannelRouterModel", "inRing", "()I"⟩, 23), (⟨"ChannelRouterModel", "tellRing", "(I)V"⟩, 23), (⟨"ChannelRouterModel", "countSteps", "(I)V"⟩, 23), (⟨"ChannelRouterModel", "layNow", "()I"⟩, 23), (⟨"ChannelRouterModel", "fill", "()I"⟩, 23), (⟨"ChannelRouterModel", "nextFor", "(IIII)I"⟩, 23), (⟨"ChannelRouterModel", "free", "(II)Z"⟩, 23), (⟨"ChannelRouterModel", "out", "(Z)Z"⟩, 23), (⟨"ChannelRouterModel", "levelAt", "(II)I"⟩, 23), (⟨"ChannelRouterModel", "uprightAt", "(II)I"⟩, 23), (⟨"ChannelRouterModel", "lies", "(III)Z"⟩, 23)]
theorem lw_r4 : ∀ q ∈ lw_privs_4, lw_okq q := List.forall_mem_cons.mpr ⟨lw_p48, List.forall_mem_cons.mpr ⟨lw_p49, List.forall_mem_cons.mpr ⟨lw_p50, List.forall_mem_cons.mpr ⟨lw_p51, List.forall_mem_cons.mpr ⟨lw_p52, List.forall_mem_cons.mpr ⟨lw_p53, List.forall_mem_cons.mpr ⟨lw_p54, List.forall_mem_cons.mpr ⟨lw_p55, List.forall_mem_cons.mpr ⟨lw_p56, List.forall_mem_cons.mpr ⟨lw_p57, List.forall_mem_cons.mpr ⟨lw_p58, List.forall_mem_cons.mpr ⟨lw_p59, List.forall_mem_cons.mpr ⟨lw_p60, List.forall_mem_cons.mpr ⟨lw_p61, List.forall_mem_cons.mpr ⟨lw_p62, List.forall_mem_cons.mpr ⟨lw_p63, fun _ h => absurd h List.not_mem_nil⟩⟩⟩⟩⟩⟩⟩⟩⟩⟩⟩⟩⟩⟩⟩⟩
theorem lw_p64 : lw_okq (⟨"ChannelRouterModel", "viaAt", "(II)Z"⟩, 23) := ⟨⟨by decide +kernel, by decide +kernel⟩, List.mem_of_getElem? (i := 528) (by decide +kernel), List.mem_of_getElem? (i := 736) (by decide +kernel), List.mem_of_getElem? (i := 737) (by decide +kernel)⟩
theorem lw_p65 : lw_okq (⟨"ChannelRouterModel", "vias", "()I"⟩, 23) := ⟨⟨by decide +kernel, by decide +kernel⟩, List.mem_of_getElem? (i := 528) (by decide +kernel), List.mem_of_getElem? (i := 756) (by decide +kernel), List.mem_of_getElem? (i := 757) (by decide +kernel)⟩
def lw_privs_5 : List (MethodName × Nat) := [(⟨"ChannelRouterModel", "viaAt", "(II)Z"⟩, 23), (⟨"ChannelRouterModel", "vias", "()I"⟩, 23)]
theorem lw_r5 : ∀ q ∈ lw_privs_5, lw_okq q := List.forall_mem_cons.mpr ⟨lw_p64, List.forall_mem_cons.mpr ⟨lw_p65, fun _ h => absurd h List.not_mem_nil⟩⟩
def lw_privs : List (MethodName × Nat) := lw_privs_1 ++ (lw_privs_2 ++ (lw_privs_3 ++ (lw_privs_4 ++ (lw_privs_5))))
def lw_tbl : List Cond := k2_sels lw_privs ++ tables_1
theorem lw_privs_ok : ∀ q ∈ lw_privs, lw_okq q := by
  show ∀ q ∈ lw_privs_1 ++ (lw_privs_2 ++ (lw_privs_3 ++ (lw_privs_4 ++ (lw_privs_5)))), lw_okq q
  exact List.forall_mem_append.mpr ⟨lw_r1, List.forall_mem_append.mpr ⟨lw_r2, List.forall_mem_append.mpr ⟨lw_r3, List.forall_mem_append.mpr ⟨lw_r4, lw_r5⟩⟩⟩⟩
end
section
def RX0 : String := "ChannelRouter$Pins"
def TX0 : u_T := fun k => match k with
  | 0 => ("ChannelRouter$Pins", "top", "[I", true)
  | _ => ("ChannelRouter$Pins", "bottom", "[I", true)
def tyX0 : Nat → FieldType := fun k => match k with
  | 0 => .array .int
  | _ => .array .int
abbrev wsX00 : List Cond := u_ws RX0 TX0 2
theorem nmX0 : ∀ a, a < 2 → ∀ b, b < 2 → a ≠ b → (TX0 a).2.1 ≠ (TX0 b).2.1 := by decide +kernel
theorem tyX0_ok : ∀ k, k < 2 → parseFieldDescriptor (TX0 k).2.2.1 = some (tyX0 k) := by decide +kernel
abbrev cX0_init : ByteArray := prog_2_method_1_code
def yX0_init : MethodName := ⟨RX0, "<init>", "()V"⟩
abbrev cX0_put : ByteArray := prog_2_method_2_code
def yX0_put : MethodName := ⟨RX0, "put", "(IZI)I"⟩
abbrev cX0_has : ByteArray := prog_2_method_3_code
def yX0_has : MethodName := ⟨RX0, "has", "(II)Z"⟩
abbrev cX0_pinsOf : ByteArray := prog_2_method_4_code
def yX0_pinsOf : MethodName := ⟨RX0, "pinsOf", "(I)I"⟩
abbrev cX0_firstColumn : ByteArray := prog_2_method_5_code
def yX0_firstColumn : MethodName := ⟨RX0, "firstColumn", "(I)I"⟩
abbrev cX0_lastColumn : ByteArray := prog_2_method_6_code
def yX0_lastColumn : MethodName := ⟨RX0, "lastColumn", "(I)I"⟩
abbrev cX0_kindOf : ByteArray := prog_2_method_7_code
def yX0_kindOf : MethodName := ⟨RX0, "kindOf", "(I)I"⟩
abbrev cX0_isLong : ByteArray := prog_2_method_8_code
def yX0_isLong : MethodName := ⟨RX0, "isLong", "(I)Z"⟩
abbrev cX0_anySingle : ByteArray := prog_2_method_9_code
def yX0_anySingle : MethodName := ⟨RX0, "anySingle", "()Z"⟩
abbrev cX0_longNetsAt : ByteArray := prog_2_method_10_code
def yX0_longNetsAt : MethodName := ⟨RX0, "longNetsAt", "(I)I"⟩
def RX1 : String := "ChannelRouter$Plan"
def TX1 : u_T := fun k => match k with
  | 0 => ("ChannelRouter$Plan", "netOf", "[I", true)
  | 1 => ("ChannelRouter$Plan", "left", "[I", true)
  | 2 => ("ChannelRouter$Plan", "right", "[I", true)
  | 3 => ("ChannelRouter$Plan", "trackOf", "[I", true)
  | 4 => ("ChannelRouter$Plan", "touched", "[I", true)
  | 5 => ("ChannelRouter$Plan", "below", "[J", true)
  | 6 => ("ChannelRouter$Plan", "byLeft", "[I", true)
  | 7 => ("ChannelRouter$Plan", "size", "I", false)
  | _ => ("ChannelRouter$Plan", "tracks", "I", false)
def tyX1 : Nat → FieldType := fun k => match k with
  | 0 => .array .int
  | 1 => .array .int
  | 2 => .array .int
  | 3 => .array .int
  | 4 => .array .int
  | 5 => .array .long
  | 6 => .array .int
  | 7 => .int
  | _ => .int
abbrev wsX10 : List Cond := u_ws RX1 TX1 9
theorem nmX1 : ∀ a, a < 9 → ∀ b, b < 9 → a ≠ b → (TX1 a).2.1 ≠ (TX1 b).2.1 := by decide +kernel
theorem tyX1_ok : ∀ k, k < 9 → parseFieldDescriptor (TX1 k).2.2.1 = some (tyX1 k) := by decide +kernel
abbrev cX1_init : ByteArray := prog_3_method_1_code
def yX1_init : MethodName := ⟨RX1, "<init>", "()V"⟩
abbrev cX1_clear : ByteArray := prog_3_method_2_code
def yX1_clear : MethodName := ⟨RX1, "clear", "()V"⟩
abbrev cX1_draw : ByteArray := prog_3_method_3_code
def yX1_draw : MethodName := ⟨RX1, "draw", "(LChannelRouter$Pins;Z)V"⟩
abbrev cX1_addWhole : ByteArray := prog_3_method_4_code
def yX1_addWhole : MethodName := ⟨RX1, "addWhole", "(LChannelRouter$Pins;I)V"⟩
abbrev cX1_addPieces : ByteArray := prog_3_method_5_code
def yX1_addPieces : MethodName := ⟨RX1, "addPieces", "(LChannelRouter$Pins;I)V"⟩
abbrev cX1_add : ByteArray := prog_3_method_6_code
def yX1_add : MethodName := ⟨RX1, "add", "(IIII)V"⟩
abbrev cX1_findBelow : ByteArray := prog_3_method_7_code
def yX1_findBelow : MethodName := ⟨RX1, "findBelow", "(LChannelRouter$Pins;)V"⟩
abbrev cX1_addBelow : ByteArray := prog_3_method_8_code
def yX1_addBelow : MethodName := ⟨RX1, "addBelow", "(JJ)V"⟩
abbrev cX1_touching : ByteArray := prog_3_method_9_code
def yX1_touching : MethodName := ⟨RX1, "touching", "(II)J"⟩
abbrev cX1_touches : ByteArray := prog_3_method_10_code
def yX1_touches : MethodName := ⟨RX1, "touches", "(III)Z"⟩
abbrev cX1_countPairs : ByteArray := prog_3_method_11_code
def yX1_countPairs : MethodName := ⟨RX1, "countPairs", "()I"⟩
abbrev cX1_fillTracks : ByteArray := prog_3_method_12_code
def yX1_fillTracks : MethodName := ⟨RX1, "fillTracks", "()V"⟩
abbrev cX1_sortByLeft : ByteArray := prog_3_method_13_code
def yX1_sortByLeft : MethodName := ⟨RX1, "sortByLeft", "()V"⟩
abbrev cX1_belowAnyOf : ByteArray := prog_3_method_14_code
def yX1_belowAnyOf : MethodName := ⟨RX1, "belowAnyOf", "(J)J"⟩
abbrev cX1_fillTrack : ByteArray := prog_3_method_15_code
def yX1_fillTrack : MethodName := ⟨RX1, "fillTrack", "(J)J"⟩
abbrev cX1_fitsBehind : ByteArray := prog_3_method_16_code
def yX1_fitsBehind : MethodName := ⟨RX1, "fitsBehind", "(II)Z"⟩
abbrev cX1_netOn : ByteArray := prog_3_method_17_code
def yX1_netOn : MethodName := ⟨RX1, "netOn", "(II)I"⟩
abbrev cX1_touchesOn : ByteArray := prog_3_method_18_code
def yX1_touchesOn : MethodName := ⟨RX1, "touchesOn", "(III)Z"⟩
abbrev cX1_greatestTrack : ByteArray := prog_3_method_19_code
def yX1_greatestTrack : MethodName := ⟨RX1, "greatestTrack", "(II)I"⟩
abbrev cX1_leastTrack : ByteArray := prog_3_method_20_code
def yX1_leastTrack : MethodName := ⟨RX1, "leastTrack", "(II)I"⟩
abbrev cX1_countPoints : ByteArray := prog_3_method_21_code
def yX1_countPoints : MethodName := ⟨RX1, "countPoints", "()I"⟩
abbrev cX1_isIn : ByteArray := prog_3_method_22_code
def yX1_isIn : MethodName := ⟨RX1, "isIn", "(JI)Z"⟩
def RX2 : String := "ChannelRouter$RingSearch"
def TX2 : u_T := fun k => match k with
  | 0 => ("ChannelRouter$RingSearch", "reach", "[J", true)
  | 1 => ("ChannelRouter$RingSearch", "steps", "[I", true)
  | 2 => ("ChannelRouter$RingSearch", "told", "[I", true)
  | _ => ("ChannelRouter$RingSearch", "length", "I", false)
def tyX2 : Nat → FieldType := fun k => match k with
  | 0 => .array .long
  | 1 => .array .int
  | 2 => .array .int
  | _ => .int
abbrev wsX20 : List Cond := u_ws RX2 TX2 4
theorem nmX2 : ∀ a, a < 4 → ∀ b, b < 4 → a ≠ b → (TX2 a).2.1 ≠ (TX2 b).2.1 := by decide +kernel
theorem tyX2_ok : ∀ k, k < 4 → parseFieldDescriptor (TX2 k).2.2.1 = some (tyX2 k) := by decide +kernel
abbrev cX2_init : ByteArray := prog_4_method_1_code
def yX2_init : MethodName := ⟨RX2, "<init>", "()V"⟩
abbrev cX2_toldAt : ByteArray := prog_4_method_2_code
def yX2_toldAt : MethodName := ⟨RX2, "toldAt", "(I)I"⟩
abbrev cX2_lowestInRing : ByteArray := prog_4_method_3_code
def yX2_lowestInRing : MethodName := ⟨RX2, "lowestInRing", "(LChannelRouter$Plan;)I"⟩
abbrev cX2_findReach : ByteArray := prog_4_method_4_code
def yX2_findReach : MethodName := ⟨RX2, "findReach", "(LChannelRouter$Plan;)V"⟩
abbrev cX2_tell : ByteArray := prog_4_method_5_code
def yX2_tell : MethodName := ⟨RX2, "tell", "(LChannelRouter$Plan;)V"⟩
abbrev cX2_countStepsTo : ByteArray := prog_4_method_6_code
def yX2_countStepsTo : MethodName := ⟨RX2, "countStepsTo", "(LChannelRouter$Plan;I)V"⟩
abbrev cX2_nearestBelow : ByteArray := prog_4_method_7_code
def yX2_nearestBelow : MethodName := ⟨RX2, "nearestBelow", "(LChannelRouter$Plan;I)I"⟩
def RX3 : String := "ChannelRouter"
def TX3 : u_T := fun k => match k with
  | 0 => ("ChannelRouter", "pins", "LChannelRouter$Pins;", true)
  | 1 => ("ChannelRouter", "rings", "LChannelRouter$RingSearch;", true)
  | 2 => ("ChannelRouter", "laid", "LChannelRouter$Plan;", false)
  | 3 => ("ChannelRouter", "draft", "LChannelRouter$Plan;", false)
  | 4 => ("ChannelRouter", "isLaid", "Z", false)
  | 5 => ("ChannelRouter", "timesLaid", "I", false)
  | _ => ("ChannelRouter", "timesRefused", "I", false)
def tyX3 : Nat → FieldType := fun k => match k with
  | 0 => .object "ChannelRouter$Pins"
  | 1 => .object "ChannelRouter$RingSearch"
  | 2 => .object "ChannelRouter$Plan"
  | 3 => .object "ChannelRouter$Plan"
  | 4 => .boolean
  | 5 => .int
  | _ => .int
abbrev wsX30 : List Cond := u_ws RX3 TX3 7
theorem nmX3 : ∀ a, a < 7 → ∀ b, b < 7 → a ≠ b → (TX3 a).2.1 ≠ (TX3 b).2.1 := by decide +kernel
theorem tyX3_ok : ∀ k, k < 7 → parseFieldDescriptor (TX3 k).2.2.1 = some (tyX3 k) := by decide +kernel
abbrev cX3_init : ByteArray := prog_1_method_1_code
def yX3_init : MethodName := ⟨RX3, "<init>", "()V"⟩
abbrev cX3_pin : ByteArray := prog_1_method_2_code
def yX3_pin : MethodName := ⟨RX3, "pin", "(IZI)I"⟩
abbrev cX3_lay : ByteArray := prog_1_method_3_code
def yX3_lay : MethodName := ⟨RX3, "lay", "(Z)I"⟩
abbrev cX3_layAny : ByteArray := prog_1_method_4_code
def yX3_layAny : MethodName := ⟨RX3, "layAny", "()I"⟩
abbrev cX3_ring : ByteArray := prog_1_method_5_code
def yX3_ring : MethodName := ⟨RX3, "ring", "(I)I"⟩
abbrev cX3_segment : ByteArray := prog_1_method_6_code
def yX3_segment : MethodName := ⟨RX3, "segment", "(II)I"⟩
abbrev cX3_level : ByteArray := prog_1_method_7_code
def yX3_level : MethodName := ⟨RX3, "level", "(II)I"⟩
abbrev cX3_upright : ByteArray := prog_1_method_8_code
def yX3_upright : MethodName := ⟨RX3, "upright", "(II)I"⟩
abbrev cX3_via : ByteArray := prog_1_method_9_code
def yX3_via : MethodName := ⟨RX3, "via", "(II)Z"⟩
abbrev cX3_density : ByteArray := prog_1_method_10_code
def yX3_density : MethodName := ⟨RX3, "density", "()I"⟩
abbrev cX3_pairs : ByteArray := prog_1_method_11_code
def yX3_pairs : MethodName := ⟨RX3, "pairs", "(Z)I"⟩
abbrev cX3_net : ByteArray := prog_1_method_12_code
def yX3_net : MethodName := ⟨RX3, "net", "(II)I"⟩
abbrev cX3_count : ByteArray := prog_1_method_13_code
def yX3_count : MethodName := ⟨RX3, "count", "(I)I"⟩
abbrev cX3_used : ByteArray := prog_1_method_14_code
def yX3_used : MethodName := ⟨RX3, "used", "()F"⟩
abbrev cX3_isColumn : ByteArray := prog_1_method_15_code
def yX3_isColumn : MethodName := ⟨RX3, "isColumn", "(I)Z"⟩
abbrev cX3_isNet : ByteArray := prog_1_method_16_code
def yX3_isNet : MethodName := ⟨RX3, "isNet", "(I)Z"⟩
abbrev cX3_isTrack : ByteArray := prog_1_method_17_code
def yX3_isTrack : MethodName := ⟨RX3, "isTrack", "(I)Z"⟩
abbrev cX3_draftHasRing : ByteArray := prog_1_method_18_code
def yX3_draftHasRing : MethodName := ⟨RX3, "draftHasRing", "(Z)Z"⟩
abbrev cX3_tellRingOfDraft : ByteArray := prog_1_method_19_code
def yX3_tellRingOfDraft : MethodName := ⟨RX3, "tellRingOfDraft", "()V"⟩
abbrev cX3_keepDraft : ByteArray := prog_1_method_20_code
def yX3_keepDraft : MethodName := ⟨RX3, "keepDraft", "()V"⟩
abbrev cX3_uprightNet : ByteArray := prog_1_method_21_code
def yX3_uprightNet : MethodName := ⟨RX3, "uprightNet", "(II)I"⟩
abbrev cX3_isVia : ByteArray := prog_1_method_22_code
def yX3_isVia : MethodName := ⟨RX3, "isVia", "(II)Z"⟩
abbrev cX3_countVias : ByteArray := prog_1_method_23_code
def yX3_countVias : MethodName := ⟨RX3, "countVias", "()I"⟩
def RX4 : String := "ChannelRouterModel"
def TX4 : u_T := fun k => match k with
  | 0 => ("ChannelRouterModel", "thrown", "I", false)
  | 1 => ("ChannelRouterModel", "pins", "[I", true)
  | 2 => ("ChannelRouterModel", "many", "I", false)
  | 3 => ("ChannelRouterModel", "nets", "[I", true)
  | 4 => ("ChannelRouterModel", "lefts", "[I", true)
  | 5 => ("ChannelRouterModel", "rights", "[I", true)
  | 6 => ("ChannelRouterModel", "touches", "[I", true)
  | 7 => ("ChannelRouterModel", "below", "[J", true)
  | 8 => ("ChannelRouterModel", "reach", "[J", true)
  | 9 => ("ChannelRouterModel", "tracksOf", "[I", true)
  | 10 => ("ChannelRouterModel", "steps", "[I", true)
  | 11 => ("ChannelRouterModel", "laid", "Z", false)
  | 12 => ("ChannelRouterModel", "laidMany", "I", false)
  | 13 => ("ChannelRouterModel", "tracks", "I", false)
  | 14 => ("ChannelRouterModel", "laidNet", "[I", true)
  | 15 => ("ChannelRouterModel", "laidLeft", "[I", true)
  | 16 => ("ChannelRouterModel", "laidRight", "[I", true)
  | 17 => ("ChannelRouterModel", "laidTouch", "[I", true)
  | 18 => ("ChannelRouterModel", "laidTrack", "[I", true)
  | 19 => ("ChannelRouterModel", "ringSize", "I", false)
  | 20 => ("ChannelRouterModel", "ringOf", "[I", true)
  | 21 => ("ChannelRouterModel", "lays", "I", false)
  | _ => ("ChannelRouterModel", "refusals", "I", false)
def tyX4 : Nat → FieldType := fun k => match k with
  | 0 => .int
  | 1 => .array .int
  | 2 => .int
  | 3 => .array .int
  | 4 => .array .int
  | 5 => .array .int
  | 6 => .array .int
  | 7 => .array .long
  | 8 => .array .long
  | 9 => .array .int
  | 10 => .array .int
  | 11 => .boolean
  | 12 => .int
  | 13 => .int
  | 14 => .array .int
  | 15 => .array .int
  | 16 => .array .int
  | 17 => .array .int
  | 18 => .array .int
  | 19 => .int
  | 20 => .array .int
  | 21 => .int
  | _ => .int
abbrev wsX40 : List Cond := u_ws RX4 TX4 23
theorem nmX4 : ∀ a, a < 23 → ∀ b, b < 23 → a ≠ b → (TX4 a).2.1 ≠ (TX4 b).2.1 := by decide +kernel
theorem tyX4_ok : ∀ k, k < 23 → parseFieldDescriptor (TX4 k).2.2.1 = some (tyX4 k) := by decide +kernel
abbrev cX4_init : ByteArray := prog_6_method_1_code
def yX4_init : MethodName := ⟨RX4, "<init>", "()V"⟩
abbrev cX4_thrown : ByteArray := prog_6_method_2_code
def yX4_thrown : MethodName := ⟨RX4, "thrown", "()I"⟩
abbrev cX4_fail : ByteArray := prog_6_method_3_code
def yX4_fail : MethodName := ⟨RX4, "fail", "(I)I"⟩
abbrev cX4_in : ByteArray := prog_6_method_4_code
def yX4_in : MethodName := ⟨RX4, "in", "(III)Z"⟩
abbrev cX4_pin : ByteArray := prog_6_method_5_code
def yX4_pin : MethodName := ⟨RX4, "pin", "(IZI)I"⟩
abbrev cX4_columns : ByteArray := prog_6_method_6_code
def yX4_columns : MethodName := ⟨RX4, "columns", "(I)I"⟩
abbrev cX4_pinsOf : ByteArray := prog_6_method_7_code
def yX4_pinsOf : MethodName := ⟨RX4, "pinsOf", "(I)I"⟩
abbrev cX4_lowest : ByteArray := prog_6_method_8_code
def yX4_lowest : MethodName := ⟨RX4, "lowest", "(I)I"⟩
abbrev cX4_highest : ByteArray := prog_6_method_9_code
def yX4_highest : MethodName := ⟨RX4, "highest", "(I)I"⟩
abbrev cX4_sort : ByteArray := prog_6_method_10_code
def yX4_sort : MethodName := ⟨RX4, "sort", "(I)I"⟩
abbrev cX4_anySingle : ByteArray := prog_6_method_11_code
def yX4_anySingle : MethodName := ⟨RX4, "anySingle", "()Z"⟩
abbrev cX4_segmentOf : ByteArray := prog_6_method_12_code
def yX4_segmentOf : MethodName := ⟨RX4, "segmentOf", "(IIII)V"⟩
abbrev cX4_makeSegments : ByteArray := prog_6_method_13_code
def yX4_makeSegments : MethodName := ⟨RX4, "makeSegments", "(Z)V"⟩
abbrev cX4_touching : ByteArray := prog_6_method_14_code
def yX4_touching : MethodName := ⟨RX4, "touching", "(III)Z"⟩
abbrev cX4_study : ByteArray := prog_6_method_15_code
def yX4_study : MethodName := ⟨RX4, "study", "(Z)I"⟩
abbrev cX4_has : ByteArray := prog_6_method_16_code
def yX4_has : MethodName := ⟨RX4, "has", "(JI)Z"⟩
abbrev cX4_inRing : ByteArray := prog_6_method_17_code
def yX4_inRing : MethodName := ⟨RX4, "inRing", "()I"⟩
abbrev cX4_countSteps : ByteArray := prog_6_method_18_code
def yX4_countSteps : MethodName := ⟨RX4, "countSteps", "(I)V"⟩
abbrev cX4_tellRing : ByteArray := prog_6_method_19_code
def yX4_tellRing : MethodName := ⟨RX4, "tellRing", "(I)V"⟩
abbrev cX4_free : ByteArray := prog_6_method_20_code
def yX4_free : MethodName := ⟨RX4, "free", "(II)Z"⟩
abbrev cX4_nextFor : ByteArray := prog_6_method_21_code
def yX4_nextFor : MethodName := ⟨RX4, "nextFor", "(IIII)I"⟩
abbrev cX4_fill : ByteArray := prog_6_method_22_code
def yX4_fill : MethodName := ⟨RX4, "fill", "()I"⟩
abbrev cX4_layNow : ByteArray := prog_6_method_23_code
def yX4_layNow : MethodName := ⟨RX4, "layNow", "()I"⟩
abbrev cX4_noRing : ByteArray := prog_6_method_24_code
def yX4_noRing : MethodName := ⟨RX4, "noRing", "()Z"⟩
abbrev cX4_lay : ByteArray := prog_6_method_25_code
def yX4_lay : MethodName := ⟨RX4, "lay", "(Z)I"⟩
abbrev cX4_layAny : ByteArray := prog_6_method_26_code
def yX4_layAny : MethodName := ⟨RX4, "layAny", "()I"⟩
abbrev cX4_ring : ByteArray := prog_6_method_27_code
def yX4_ring : MethodName := ⟨RX4, "ring", "(I)I"⟩
abbrev cX4_segment : ByteArray := prog_6_method_28_code
def yX4_segment : MethodName := ⟨RX4, "segment", "(II)I"⟩
abbrev cX4_out : ByteArray := prog_6_method_29_code
def yX4_out : MethodName := ⟨RX4, "out", "(Z)Z"⟩
abbrev cX4_levelAt : ByteArray := prog_6_method_30_code
def yX4_levelAt : MethodName := ⟨RX4, "levelAt", "(II)I"⟩
abbrev cX4_level : ByteArray := prog_6_method_31_code
def yX4_level : MethodName := ⟨RX4, "level", "(II)I"⟩
abbrev cX4_lies : ByteArray := prog_6_method_32_code
def yX4_lies : MethodName := ⟨RX4, "lies", "(III)Z"⟩
abbrev cX4_uprightAt : ByteArray := prog_6_method_33_code
def yX4_uprightAt : MethodName := ⟨RX4, "uprightAt", "(II)I"⟩
abbrev cX4_upright : ByteArray := prog_6_method_34_code
def yX4_upright : MethodName := ⟨RX4, "upright", "(II)I"⟩
abbrev cX4_viaAt : ByteArray := prog_6_method_35_code
def yX4_viaAt : MethodName := ⟨RX4, "viaAt", "(II)Z"⟩
abbrev cX4_via : ByteArray := prog_6_method_36_code
def yX4_via : MethodName := ⟨RX4, "via", "(II)Z"⟩
abbrev cX4_density : ByteArray := prog_6_method_37_code
def yX4_density : MethodName := ⟨RX4, "density", "()I"⟩
abbrev cX4_pairs : ByteArray := prog_6_method_38_code
def yX4_pairs : MethodName := ⟨RX4, "pairs", "(Z)I"⟩
abbrev cX4_net : ByteArray := prog_6_method_39_code
def yX4_net : MethodName := ⟨RX4, "net", "(II)I"⟩
abbrev cX4_vias : ByteArray := prog_6_method_40_code
def yX4_vias : MethodName := ⟨RX4, "vias", "()I"⟩
abbrev cX4_count : ByteArray := prog_6_method_41_code
def yX4_count : MethodName := ⟨RX4, "count", "(I)I"⟩
abbrev cX4_used : ByteArray := prog_6_method_42_code
def yX4_used : MethodName := ⟨RX4, "used", "()F"⟩
def RJ13 : String := "java/lang/Long"
def TJ13 : u_T := fun k => match k with
  | _ => ("", "", "", false)
def tyJ13 : Nat → FieldType := fun k => match k with
  | _ => .int
abbrev wsJ130 : List Cond := u_ws RJ13 TJ13 0
theorem nmJ13 : ∀ a, a < 0 → ∀ b, b < 0 → a ≠ b → (TJ13 a).2.1 ≠ (TJ13 b).2.1 := by decide +kernel
theorem tyJ13_ok : ∀ k, k < 0 → parseFieldDescriptor (TJ13 k).2.2.1 = some (tyJ13 k) := by decide +kernel
abbrev cJ13_bitCount_95d88 : ByteArray := prog_11_method_50_code
def yJ13_bitCount_95d88 : MethodName := ⟨RJ13, "bitCount", "(J)I"⟩
def RJ9 : String := "java/lang/Math"
def TJ9 : u_T := fun k => match k with
  | _ => ("", "", "", false)
def tyJ9 : Nat → FieldType := fun k => match k with
  | _ => .int
abbrev wsJ90 : List Cond := u_ws RJ9 TJ9 0
theorem nmJ9 : ∀ a, a < 0 → ∀ b, b < 0 → a ≠ b → (TJ9 a).2.1 ≠ (TJ9 b).2.1 := by decide +kernel
theorem tyJ9_ok : ∀ k, k < 0 → parseFieldDescriptor (TJ9 k).2.2.1 = some (tyJ9 k) := by decide +kernel
abbrev cJ9_max_7cf53 : ByteArray := prog_12_method_65_code
def yJ9_max_7cf53 : MethodName := ⟨RJ9, "max", "(II)I"⟩
abbrev cJ9_min_7cf53 : ByteArray := prog_12_method_69_code
def yJ9_min_7cf53 : MethodName := ⟨RJ9, "min", "(II)I"⟩
def RJ0 : String := "java/lang/String"
def TJ0 : u_T := fun k => match k with
  | _ => ("", "", "", false)
def tyJ0 : Nat → FieldType := fun k => match k with
  | _ => .int
abbrev wsJ00 : List Cond := u_ws RJ0 TJ0 0
theorem nmJ0 : ∀ a, a < 0 → ∀ b, b < 0 → a ≠ b → (TJ0 a).2.1 ≠ (TJ0 b).2.1 := by decide +kernel
theorem tyJ0_ok : ∀ k, k < 0 → parseFieldDescriptor (TJ0 k).2.2.1 = some (tyJ0 k) := by decide +kernel
def RJ10 : String := "java/lang/System"
def TJ10 : u_T := fun k => match k with
  | _ => ("", "", "", false)
def tyJ10 : Nat → FieldType := fun k => match k with
  | _ => .int
abbrev wsJ100 : List Cond := u_ws RJ10 TJ10 0
theorem nmJ10 : ∀ a, a < 0 → ∀ b, b < 0 → a ≠ b → (TJ10 a).2.1 ≠ (TJ10 b).2.1 := by decide +kernel
theorem tyJ10_ok : ∀ k, k < 0 → parseFieldDescriptor (TJ10 k).2.2.1 = some (tyJ10 k) := by decide +kernel
def RJ7 : String := "java/util/Arrays"
def TJ7 : u_T := fun k => match k with
  | _ => ("", "", "", false)
def tyJ7 : Nat → FieldType := fun k => match k with
  | _ => .int
abbrev wsJ70 : List Cond := u_ws RJ7 TJ7 0
theorem nmJ7 : ∀ a, a < 0 → ∀ b, b < 0 → a ≠ b → (TJ7 a).2.1 ≠ (TJ7 b).2.1 := by decide +kernel
theorem tyJ7_ok : ∀ k, k < 0 → parseFieldDescriptor (TJ7 k).2.2.1 = some (tyJ7 k) := by decide +kernel
abbrev cJ7_fill_d0a16 : ByteArray := prog_17_method_101_code
def yJ7_fill_d0a16 : MethodName := ⟨RJ7, "fill", "([JJ)V"⟩
abbrev cJ7_fill_53178 : ByteArray := prog_17_method_103_code
def yJ7_fill_53178 : MethodName := ⟨RJ7, "fill", "([II)V"⟩
def RL : String := "ChannelRouterLaw"
abbrev cL_pin : ByteArray := method_3_code
def yL_pin : MethodName := ⟨RL, "pin", "(LChannelRouter;IZI[J)I"⟩
abbrev cL_lay : ByteArray := method_4_code
def yL_lay : MethodName := ⟨RL, "lay", "(LChannelRouter;Z[J)I"⟩
abbrev cL_layAny : ByteArray := method_5_code
def yL_layAny : MethodName := ⟨RL, "layAny", "(LChannelRouter;[J)I"⟩
abbrev cL_segment : ByteArray := method_6_code
def yL_segment : MethodName := ⟨RL, "segment", "(LChannelRouter;II[J)I"⟩
abbrev cL_level : ByteArray := method_7_code
def yL_level : MethodName := ⟨RL, "level", "(LChannelRouter;II[J)I"⟩
abbrev cL_upright : ByteArray := method_8_code
def yL_upright : MethodName := ⟨RL, "upright", "(LChannelRouter;II[J)I"⟩
abbrev cL_via : ByteArray := method_9_code
def yL_via : MethodName := ⟨RL, "via", "(LChannelRouter;II[J)I"⟩
abbrev cL_net : ByteArray := method_10_code
def yL_net : MethodName := ⟨RL, "net", "(LChannelRouter;II[J)I"⟩
abbrev cL_count : ByteArray := method_11_code
def yL_count : MethodName := ⟨RL, "count", "(LChannelRouter;I[J)I"⟩
abbrev cL_law : ByteArray := code
def yL_law : MethodName := ⟨RL, "law", "([I)Z"⟩
abbrev vwCl : List vw_C := [(RX0, TX0, 2), (RX1, TX1, 9), (RX2, TX2, 4), (RX3, TX3, 7), (RX4, TX4, 23)]
end
section
theorem dX0_init_0 : decode cX0_init 0 = .ok (.aload_n 0, 1) := by decide +kernel
theorem dX0_init_1 : decode cX0_init 1 = .ok (.invokespecial 3, 3) := by decide +kernel
theorem dX0_init_4 : decode cX0_init 4 = .ok (.aload_n 0, 1) := by decide +kernel
theorem dX0_init_5 : decode cX0_init 5 = .ok (.bipush 20, 2) := by decide +kernel
theorem dX0_init_7 : decode cX0_init 7 = .ok (.newarray .int, 2) := by decide +kernel
theorem dX0_init_9 : decode cX0_init 9 = .ok (.putfield 9, 3) := by decide +kernel
theorem dX0_init_12 : decode cX0_init 12 = .ok (.aload_n 0, 1) := by decide +kernel
theorem dX0_init_13 : decode cX0_init 13 = .ok (.bipush 20, 2) := by decide +kernel
theorem dX0_init_15 : decode cX0_init 15 = .ok (.newarray .int, 2) := by decide +kernel
theorem dX0_init_17 : decode cX0_init 17 = .ok (.putfield 15, 3) := by decide +kernel
theorem dX0_init_20 : decode cX0_init 20 = .ok (.return_, 1) := by decide +kernel
theorem dX0_put_0 : decode cX0_put 0 = .ok (.iload_n 2, 1) := by decide +kernel
theorem dX0_put_1 : decode cX0_put 1 = .ok (.ifCond .eq 10, 3) := by decide +kernel
theorem dX0_put_4 : decode cX0_put 4 = .ok (.aload_n 0, 1) := by decide +kernel
theorem dX0_put_5 : decode cX0_put 5 = .ok (.getfield 9, 3) := by decide +kernel
theorem dX0_put_8 : decode cX0_put 8 = .ok (.goto 7, 3) := by decide +kernel
theorem dX0_put_11 : decode cX0_put 11 = .ok (.aload_n 0, 1) := by decide +kernel
theorem dX0_put_12 : decode cX0_put 12 = .ok (.getfield 15, 3) := by decide +kernel
theorem dX0_put_15 : decode cX0_put 15 = .ok (.astore 4, 2) := by decide +kernel
theorem dX0_put_17 : decode cX0_put 17 = .ok (.aload 4, 2) := by decide +kernel
theorem dX0_put_19 : decode cX0_put 19 = .ok (.iload_n 1, 1) := by decide +kernel
theorem dX0_put_20 : decode cX0_put 20 = .ok (.iaload, 1) := by decide +kernel
theorem dX0_put_21 : decode cX0_put 21 = .ok (.istore 5, 2) := by decide +kernel
theorem dX0_put_23 : decode cX0_put 23 = .ok (.aload 4, 2) := by decide +kernel
theorem dX0_put_25 : decode cX0_put 25 = .ok (.iload_n 1, 1) := by decide +kernel
theorem dX0_put_26 : decode cX0_put 26 = .ok (.iload_n 3, 1) := by decide +kernel
theorem dX0_put_27 : decode cX0_put 27 = .ok (.iastore, 1) := by decide +kernel
theorem dX0_put_28 : decode cX0_put 28 = .ok (.iload 5, 2) := by decide +kernel
theorem dX0_put_30 : decode cX0_put 30 = .ok (.ireturn, 1) := by decide +kernel
theorem dX0_has_0 : decode cX0_has 0 = .ok (.aload_n 0, 1) := by decide +kernel
theorem dX0_has_1 : decode cX0_has 1 = .ok (.getfield 9, 3) := by decide +kernel
theorem dX0_has_4 : decode cX0_has 4 = .ok (.iload_n 2, 1) := by decide +kernel
theorem dX0_has_5 : decode cX0_has 5 = .ok (.iaload, 1) := by decide +kernel
theorem dX0_has_6 : decode cX0_has 6 = .ok (.iload_n 1, 1) := by decide +kernel
theorem dX0_has_7 : decode cX0_has 7 = .ok (.if_icmp .eq 13, 3) := by decide +kernel
theorem dX0_has_10 : decode cX0_has 10 = .ok (.aload_n 0, 1) := by decide +kernel
theorem dX0_has_11 : decode cX0_has 11 = .ok (.getfield 15, 3) := by decide +kernel
theorem dX0_has_14 : decode cX0_has 14 = .ok (.iload_n 2, 1) := by decide +kernel
theorem dX0_has_15 : decode cX0_has 15 = .ok (.iaload, 1) := by decide +kernel
theorem dX0_has_16 : decode cX0_has 16 = .ok (.iload_n 1, 1) := by decide +kernel
theorem dX0_has_17 : decode cX0_has 17 = .ok (.if_icmp .ne 7, 3) := by decide +kernel
theorem dX0_has_20 : decode cX0_has 20 = .ok (.iconst 1, 1) := by decide +kernel
theorem dX0_has_21 : decode cX0_has 21 = .ok (.goto 4, 3) := by decide +kernel
theorem dX0_has_24 : decode cX0_has 24 = .ok (.iconst 0, 1) := by decide +kernel
theorem dX0_has_25 : decode cX0_has 25 = .ok (.ireturn, 1) := by decide +kernel
theorem dX0_pinsOf_0 : decode cX0_pinsOf 0 = .ok (.iconst 0, 1) := by decide +kernel
theorem dX0_pinsOf_1 : decode cX0_pinsOf 1 = .ok (.istore_n 2, 1) := by decide +kernel
theorem dX0_pinsOf_2 : decode cX0_pinsOf 2 = .ok (.iconst 0, 1) := by decide +kernel
theorem dX0_pinsOf_3 : decode cX0_pinsOf 3 = .ok (.istore_n 3, 1) := by decide +kernel
theorem dX0_pinsOf_4 : decode cX0_pinsOf 4 = .ok (.iload_n 3, 1) := by decide +kernel
theorem dX0_pinsOf_5 : decode cX0_pinsOf 5 = .ok (.bipush 20, 2) := by decide +kernel
theorem dX0_pinsOf_7 : decode cX0_pinsOf 7 = .ok (.if_icmp .ge 35, 3) := by decide +kernel
theorem dX0_pinsOf_10 : decode cX0_pinsOf 10 = .ok (.aload_n 0, 1) := by decide +kernel
theorem dX0_pinsOf_11 : decode cX0_pinsOf 11 = .ok (.getfield 9, 3) := by decide +kernel
theorem dX0_pinsOf_14 : decode cX0_pinsOf 14 = .ok (.iload_n 3, 1) := by decide +kernel
theorem dX0_pinsOf_15 : decode cX0_pinsOf 15 = .ok (.iaload, 1) := by decide +kernel
theorem dX0_pinsOf_16 : decode cX0_pinsOf 16 = .ok (.iload_n 1, 1) := by decide +kernel
theorem dX0_pinsOf_17 : decode cX0_pinsOf 17 = .ok (.if_icmp .ne 6, 3) := by decide +kernel
theorem dX0_pinsOf_20 : decode cX0_pinsOf 20 = .ok (.iinc 2 1, 3) := by decide +kernel
theorem dX0_pinsOf_23 : decode cX0_pinsOf 23 = .ok (.aload_n 0, 1) := by decide +kernel
theorem dX0_pinsOf_24 : decode cX0_pinsOf 24 = .ok (.getfield 15, 3) := by decide +kernel
theorem dX0_pinsOf_27 : decode cX0_pinsOf 27 = .ok (.iload_n 3, 1) := by decide +kernel
theorem dX0_pinsOf_28 : decode cX0_pinsOf 28 = .ok (.iaload, 1) := by decide +kernel
theorem dX0_pinsOf_29 : decode cX0_pinsOf 29 = .ok (.iload_n 1, 1) := by decide +kernel
theorem dX0_pinsOf_30 : decode cX0_pinsOf 30 = .ok (.if_icmp .ne 6, 3) := by decide +kernel
theorem dX0_pinsOf_33 : decode cX0_pinsOf 33 = .ok (.iinc 2 1, 3) := by decide +kernel
theorem dX0_pinsOf_36 : decode cX0_pinsOf 36 = .ok (.iinc 3 1, 3) := by decide +kernel
theorem dX0_pinsOf_39 : decode cX0_pinsOf 39 = .ok (.goto (-35), 3) := by decide +kernel
theorem dX0_pinsOf_42 : decode cX0_pinsOf 42 = .ok (.iload_n 2, 1) := by decide +kernel
theorem dX0_pinsOf_43 : decode cX0_pinsOf 43 = .ok (.ireturn, 1) := by decide +kernel
theorem dX0_firstColumn_0 : decode cX0_firstColumn 0 = .ok (.iconst 0, 1) := by decide +kernel
theorem dX0_firstColumn_1 : decode cX0_firstColumn 1 = .ok (.istore_n 2, 1) := by decide +kernel
theorem dX0_firstColumn_2 : decode cX0_firstColumn 2 = .ok (.iload_n 2, 1) := by decide +kernel
theorem dX0_firstColumn_3 : decode cX0_firstColumn 3 = .ok (.bipush 20, 2) := by decide +kernel
theorem dX0_firstColumn_5 : decode cX0_firstColumn 5 = .ok (.if_icmp .ge 20, 3) := by decide +kernel
theorem dX0_firstColumn_8 : decode cX0_firstColumn 8 = .ok (.aload_n 0, 1) := by decide +kernel
theorem dX0_firstColumn_9 : decode cX0_firstColumn 9 = .ok (.iload_n 1, 1) := by decide +kernel
theorem dX0_firstColumn_10 : decode cX0_firstColumn 10 = .ok (.iload_n 2, 1) := by decide +kernel
theorem dX0_firstColumn_11 : decode cX0_firstColumn 11 = .ok (.invokevirtual 18, 3) := by decide +kernel
theorem dX0_firstColumn_14 : decode cX0_firstColumn 14 = .ok (.ifCond .eq 5, 3) := by decide +kernel
theorem dX0_firstColumn_17 : decode cX0_firstColumn 17 = .ok (.iload_n 2, 1) := by decide +kernel
theorem dX0_firstColumn_18 : decode cX0_firstColumn 18 = .ok (.ireturn, 1) := by decide +kernel
theorem dX0_firstColumn_19 : decode cX0_firstColumn 19 = .ok (.iinc 2 1, 3) := by decide +kernel
theorem dX0_firstColumn_22 : decode cX0_firstColumn 22 = .ok (.goto (-20), 3) := by decide +kernel
theorem dX0_firstColumn_25 : decode cX0_firstColumn 25 = .ok (.iconst (-1), 1) := by decide +kernel
theorem dX0_firstColumn_26 : decode cX0_firstColumn 26 = .ok (.ireturn, 1) := by decide +kernel
theorem dX0_lastColumn_0 : decode cX0_lastColumn 0 = .ok (.bipush 19, 2) := by decide +kernel
theorem dX0_lastColumn_2 : decode cX0_lastColumn 2 = .ok (.istore_n 2, 1) := by decide +kernel
theorem dX0_lastColumn_3 : decode cX0_lastColumn 3 = .ok (.iload_n 2, 1) := by decide +kernel
theorem dX0_lastColumn_4 : decode cX0_lastColumn 4 = .ok (.ifCond .lt 20, 3) := by decide +kernel
theorem dX0_lastColumn_7 : decode cX0_lastColumn 7 = .ok (.aload_n 0, 1) := by decide +kernel
theorem dX0_lastColumn_8 : decode cX0_lastColumn 8 = .ok (.iload_n 1, 1) := by decide +kernel
theorem dX0_lastColumn_9 : decode cX0_lastColumn 9 = .ok (.iload_n 2, 1) := by decide +kernel
theorem dX0_lastColumn_10 : decode cX0_lastColumn 10 = .ok (.invokevirtual 18, 3) := by decide +kernel
theorem dX0_lastColumn_13 : decode cX0_lastColumn 13 = .ok (.ifCond .eq 5, 3) := by decide +kernel
theorem dX0_lastColumn_16 : decode cX0_lastColumn 16 = .ok (.iload_n 2, 1) := by decide +kernel
theorem dX0_lastColumn_17 : decode cX0_lastColumn 17 = .ok (.ireturn, 1) := by decide +kernel
theorem dX0_lastColumn_18 : decode cX0_lastColumn 18 = .ok (.iinc 2 (-1), 3) := by decide +kernel
theorem dX0_lastColumn_21 : decode cX0_lastColumn 21 = .ok (.goto (-18), 3) := by decide +kernel
theorem dX0_lastColumn_24 : decode cX0_lastColumn 24 = .ok (.iconst (-1), 1) := by decide +kernel
theorem dX0_lastColumn_25 : decode cX0_lastColumn 25 = .ok (.ireturn, 1) := by decide +kernel
theorem dX0_kindOf_0 : decode cX0_kindOf 0 = .ok (.aload_n 0, 1) := by decide +kernel
theorem dX0_kindOf_1 : decode cX0_kindOf 1 = .ok (.iload_n 1, 1) := by decide +kernel
theorem dX0_kindOf_2 : decode cX0_kindOf 2 = .ok (.invokevirtual 22, 3) := by decide +kernel
theorem dX0_kindOf_5 : decode cX0_kindOf 5 = .ok (.istore_n 2, 1) := by decide +kernel
theorem dX0_kindOf_6 : decode cX0_kindOf 6 = .ok (.iload_n 2, 1) := by decide +kernel
theorem dX0_kindOf_7 : decode cX0_kindOf 7 = .ok (.ifCond .ne 5, 3) := by decide +kernel
theorem dX0_kindOf_10 : decode cX0_kindOf 10 = .ok (.iconst 0, 1) := by decide +kernel
theorem dX0_kindOf_11 : decode cX0_kindOf 11 = .ok (.ireturn, 1) := by decide +kernel
theorem dX0_kindOf_12 : decode cX0_kindOf 12 = .ok (.iload_n 2, 1) := by decide +kernel
theorem dX0_kindOf_13 : decode cX0_kindOf 13 = .ok (.iconst 1, 1) := by decide +kernel
theorem dX0_kindOf_14 : decode cX0_kindOf 14 = .ok (.if_icmp .ne 5, 3) := by decide +kernel
theorem dX0_kindOf_17 : decode cX0_kindOf 17 = .ok (.iconst 1, 1) := by decide +kernel
theorem dX0_kindOf_18 : decode cX0_kindOf 18 = .ok (.ireturn, 1) := by decide +kernel
theorem dX0_kindOf_19 : decode cX0_kindOf 19 = .ok (.aload_n 0, 1) := by decide +kernel
theorem dX0_kindOf_20 : decode cX0_kindOf 20 = .ok (.iload_n 1, 1) := by decide +kernel
theorem dX0_kindOf_21 : decode cX0_kindOf 21 = .ok (.invokevirtual 26, 3) := by decide +kernel
theorem dX0_kindOf_24 : decode cX0_kindOf 24 = .ok (.aload_n 0, 1) := by decide +kernel
theorem dX0_kindOf_25 : decode cX0_kindOf 25 = .ok (.iload_n 1, 1) := by decide +kernel
theorem dX0_kindOf_26 : decode cX0_kindOf 26 = .ok (.invokevirtual 29, 3) := by decide +kernel
theorem dX0_kindOf_29 : decode cX0_kindOf 29 = .ok (.if_icmp .ne 7, 3) := by decide +kernel
theorem dX0_kindOf_32 : decode cX0_kindOf 32 = .ok (.iconst 2, 1) := by decide +kernel
theorem dX0_kindOf_33 : decode cX0_kindOf 33 = .ok (.goto 4, 3) := by decide +kernel
theorem dX0_kindOf_36 : decode cX0_kindOf 36 = .ok (.iconst 3, 1) := by decide +kernel
theorem dX0_kindOf_37 : decode cX0_kindOf 37 = .ok (.ireturn, 1) := by decide +kernel
theorem dX0_isLong_0 : decode cX0_isLong 0 = .ok (.aload_n 0, 1) := by decide +kernel
theorem dX0_isLong_1 : decode cX0_isLong 1 = .ok (.iload_n 1, 1) := by decide +kernel
theorem dX0_isLong_2 : decode cX0_isLong 2 = .ok (.invokevirtual 32, 3) := by decide +kernel
theorem dX0_isLong_5 : decode cX0_isLong 5 = .ok (.iconst 3, 1) := by decide +kernel
theorem dX0_isLong_6 : decode cX0_isLong 6 = .ok (.if_icmp .ne 7, 3) := by decide +kernel
theorem dX0_isLong_9 : decode cX0_isLong 9 = .ok (.iconst 1, 1) := by decide +kernel
theorem dX0_isLong_10 : decode cX0_isLong 10 = .ok (.goto 4, 3) := by decide +kernel
theorem dX0_isLong_13 : decode cX0_isLong 13 = .ok (.iconst 0, 1) := by decide +kernel
theorem dX0_isLong_14 : decode cX0_isLong 14 = .ok (.ireturn, 1) := by decide +kernel
theorem dX0_anySingle_0 : decode cX0_anySingle 0 = .ok (.iconst 1, 1) := by decide +kernel
theorem dX0_anySingle_1 : decode cX0_anySingle 1 = .ok (.istore_n 1, 1) := by decide +kernel
theorem dX0_anySingle_2 : decode cX0_anySingle 2 = .ok (.iload_n 1, 1) := by decide +kernel
theorem dX0_anySingle_3 : decode cX0_anySingle 3 = .ok (.bipush 9, 2) := by decide +kernel
theorem dX0_anySingle_5 : decode cX0_anySingle 5 = .ok (.if_icmp .gt 20, 3) := by decide +kernel
theorem dX0_anySingle_8 : decode cX0_anySingle 8 = .ok (.aload_n 0, 1) := by decide +kernel
theorem dX0_anySingle_9 : decode cX0_anySingle 9 = .ok (.iload_n 1, 1) := by decide +kernel
theorem dX0_anySingle_10 : decode cX0_anySingle 10 = .ok (.invokevirtual 32, 3) := by decide +kernel
theorem dX0_anySingle_13 : decode cX0_anySingle 13 = .ok (.iconst 1, 1) := by decide +kernel
theorem dX0_anySingle_14 : decode cX0_anySingle 14 = .ok (.if_icmp .ne 5, 3) := by decide +kernel
theorem dX0_anySingle_17 : decode cX0_anySingle 17 = .ok (.iconst 1, 1) := by decide +kernel
theorem dX0_anySingle_18 : decode cX0_anySingle 18 = .ok (.ireturn, 1) := by decide +kernel
theorem dX0_anySingle_19 : decode cX0_anySingle 19 = .ok (.iinc 1 1, 3) := by decide +kernel
theorem dX0_anySingle_22 : decode cX0_anySingle 22 = .ok (.goto (-20), 3) := by decide +kernel
theorem dX0_anySingle_25 : decode cX0_anySingle 25 = .ok (.iconst 0, 1) := by decide +kernel
theorem dX0_anySingle_26 : decode cX0_anySingle 26 = .ok (.ireturn, 1) := by decide +kernel
theorem dX0_longNetsAt_0 : decode cX0_longNetsAt 0 = .ok (.iconst 0, 1) := by decide +kernel
theorem dX0_longNetsAt_1 : decode cX0_longNetsAt 1 = .ok (.istore_n 2, 1) := by decide +kernel
theorem dX0_longNetsAt_2 : decode cX0_longNetsAt 2 = .ok (.iconst 1, 1) := by decide +kernel
theorem dX0_longNetsAt_3 : decode cX0_longNetsAt 3 = .ok (.istore_n 3, 1) := by decide +kernel
theorem dX0_longNetsAt_4 : decode cX0_longNetsAt 4 = .ok (.iload_n 3, 1) := by decide +kernel
theorem dX0_longNetsAt_5 : decode cX0_longNetsAt 5 = .ok (.bipush 9, 2) := by decide +kernel
theorem dX0_longNetsAt_7 : decode cX0_longNetsAt 7 = .ok (.if_icmp .gt 38, 3) := by decide +kernel
theorem dX0_longNetsAt_10 : decode cX0_longNetsAt 10 = .ok (.aload_n 0, 1) := by decide +kernel
theorem dX0_longNetsAt_11 : decode cX0_longNetsAt 11 = .ok (.iload_n 3, 1) := by decide +kernel
theorem dX0_longNetsAt_12 : decode cX0_longNetsAt 12 = .ok (.invokevirtual 35, 3) := by decide +kernel
theorem dX0_longNetsAt_15 : decode cX0_longNetsAt 15 = .ok (.ifCond .eq 24, 3) := by decide +kernel
theorem dX0_longNetsAt_18 : decode cX0_longNetsAt 18 = .ok (.aload_n 0, 1) := by decide +kernel
theorem dX0_longNetsAt_19 : decode cX0_longNetsAt 19 = .ok (.iload_n 3, 1) := by decide +kernel
theorem dX0_longNetsAt_20 : decode cX0_longNetsAt 20 = .ok (.invokevirtual 26, 3) := by decide +kernel
theorem dX0_longNetsAt_23 : decode cX0_longNetsAt 23 = .ok (.iload_n 1, 1) := by decide +kernel
theorem dX0_longNetsAt_24 : decode cX0_longNetsAt 24 = .ok (.if_icmp .gt 15, 3) := by decide +kernel
theorem dX0_longNetsAt_27 : decode cX0_longNetsAt 27 = .ok (.iload_n 1, 1) := by decide +kernel
theorem dX0_longNetsAt_28 : decode cX0_longNetsAt 28 = .ok (.aload_n 0, 1) := by decide +kernel
theorem dX0_longNetsAt_29 : decode cX0_longNetsAt 29 = .ok (.iload_n 3, 1) := by decide +kernel
theorem dX0_longNetsAt_30 : decode cX0_longNetsAt 30 = .ok (.invokevirtual 29, 3) := by decide +kernel
theorem dX0_longNetsAt_33 : decode cX0_longNetsAt 33 = .ok (.if_icmp .gt 6, 3) := by decide +kernel
theorem dX0_longNetsAt_36 : decode cX0_longNetsAt 36 = .ok (.iinc 2 1, 3) := by decide +kernel
theorem dX0_longNetsAt_39 : decode cX0_longNetsAt 39 = .ok (.iinc 3 1, 3) := by decide +kernel
theorem dX0_longNetsAt_42 : decode cX0_longNetsAt 42 = .ok (.goto (-38), 3) := by decide +kernel
theorem dX0_longNetsAt_45 : decode cX0_longNetsAt 45 = .ok (.iload_n 2, 1) := by decide +kernel
theorem dX0_longNetsAt_46 : decode cX0_longNetsAt 46 = .ok (.ireturn, 1) := by decide +kernel
theorem dX1_init_0 : decode cX1_init 0 = .ok (.aload_n 0, 1) := by decide +kernel
theorem dX1_init_1 : decode cX1_init 1 = .ok (.invokespecial 3, 3) := by decide +kernel
theorem dX1_init_4 : decode cX1_init 4 = .ok (.aload_n 0, 1) := by decide +kernel
theorem dX1_init_5 : decode cX1_init 5 = .ok (.bipush 38, 2) := by decide +kernel
theorem dX1_init_7 : decode cX1_init 7 = .ok (.newarray .int, 2) := by decide +kernel
theorem dX1_init_9 : decode cX1_init 9 = .ok (.putfield 9, 3) := by decide +kernel
theorem dX1_init_12 : decode cX1_init 12 = .ok (.aload_n 0, 1) := by decide +kernel
theorem dX1_init_13 : decode cX1_init 13 = .ok (.bipush 38, 2) := by decide +kernel
theorem dX1_init_15 : decode cX1_init 15 = .ok (.newarray .int, 2) := by decide +kernel
theorem dX1_init_17 : decode cX1_init 17 = .ok (.putfield 15, 3) := by decide +kernel
theorem dX1_init_20 : decode cX1_init 20 = .ok (.aload_n 0, 1) := by decide +kernel
theorem dX1_init_21 : decode cX1_init 21 = .ok (.bipush 38, 2) := by decide +kernel
theorem dX1_init_23 : decode cX1_init 23 = .ok (.newarray .int, 2) := by decide +kernel
theorem dX1_init_25 : decode cX1_init 25 = .ok (.putfield 18, 3) := by decide +kernel
theorem dX1_init_28 : decode cX1_init 28 = .ok (.aload_n 0, 1) := by decide +kernel
theorem dX1_init_29 : decode cX1_init 29 = .ok (.bipush 38, 2) := by decide +kernel
theorem dX1_init_31 : decode cX1_init 31 = .ok (.newarray .int, 2) := by decide +kernel
theorem dX1_init_33 : decode cX1_init 33 = .ok (.putfield 21, 3) := by decide +kernel
theorem dX1_init_36 : decode cX1_init 36 = .ok (.aload_n 0, 1) := by decide +kernel
theorem dX1_init_37 : decode cX1_init 37 = .ok (.bipush 38, 2) := by decide +kernel
theorem dX1_init_39 : decode cX1_init 39 = .ok (.newarray .int, 2) := by decide +kernel
theorem dX1_init_41 : decode cX1_init 41 = .ok (.putfield 24, 3) := by decide +kernel
theorem dX1_init_44 : decode cX1_init 44 = .ok (.aload_n 0, 1) := by decide +kernel
theorem dX1_init_45 : decode cX1_init 45 = .ok (.bipush 38, 2) := by decide +kernel
theorem dX1_init_47 : decode cX1_init 47 = .ok (.newarray .long, 2) := by decide +kernel
theorem dX1_init_49 : decode cX1_init 49 = .ok (.putfield 27, 3) := by decide +kernel
theorem dX1_init_52 : decode cX1_init 52 = .ok (.aload_n 0, 1) := by decide +kernel
theorem dX1_init_53 : decode cX1_init 53 = .ok (.bipush 38, 2) := by decide +kernel
theorem dX1_init_55 : decode cX1_init 55 = .ok (.newarray .int, 2) := by decide +kernel
theorem dX1_init_57 : decode cX1_init 57 = .ok (.putfield 31, 3) := by decide +kernel
theorem dX1_init_60 : decode cX1_init 60 = .ok (.aload_n 0, 1) := by decide +kernel
theorem dX1_init_61 : decode cX1_init 61 = .ok (.iconst 0, 1) := by decide +kernel
theorem dX1_init_62 : decode cX1_init 62 = .ok (.putfield 34, 3) := by decide +kernel
theorem dX1_init_65 : decode cX1_init 65 = .ok (.aload_n 0, 1) := by decide +kernel
theorem dX1_init_66 : decode cX1_init 66 = .ok (.iconst 0, 1) := by decide +kernel
theorem dX1_init_67 : decode cX1_init 67 = .ok (.putfield 38, 3) := by decide +kernel
theorem dX1_init_70 : decode cX1_init 70 = .ok (.return_, 1) := by decide +kernel
theorem dX1_clear_0 : decode cX1_clear 0 = .ok (.aload_n 0, 1) := by decide +kernel
theorem dX1_clear_1 : decode cX1_clear 1 = .ok (.iconst 0, 1) := by decide +kernel
theorem dX1_clear_2 : decode cX1_clear 2 = .ok (.putfield 34, 3) := by decide +kernel
theorem dX1_clear_5 : decode cX1_clear 5 = .ok (.aload_n 0, 1) := by decide +kernel
theorem dX1_clear_6 : decode cX1_clear 6 = .ok (.iconst 0, 1) := by decide +kernel
theorem dX1_clear_7 : decode cX1_clear 7 = .ok (.putfield 38, 3) := by decide +kernel
theorem dX1_clear_10 : decode cX1_clear 10 = .ok (.return_, 1) := by decide +kernel
theorem dX1_draw_0 : decode cX1_draw 0 = .ok (.aload_n 0, 1) := by decide +kernel
theorem dX1_draw_1 : decode cX1_draw 1 = .ok (.invokevirtual 41, 3) := by decide +kernel
theorem dX1_draw_4 : decode cX1_draw 4 = .ok (.iconst 1, 1) := by decide +kernel
theorem dX1_draw_5 : decode cX1_draw 5 = .ok (.istore_n 3, 1) := by decide +kernel
theorem dX1_draw_6 : decode cX1_draw 6 = .ok (.iload_n 3, 1) := by decide +kernel
theorem dX1_draw_7 : decode cX1_draw 7 = .ok (.bipush 9, 2) := by decide +kernel
theorem dX1_draw_9 : decode cX1_draw 9 = .ok (.if_icmp .gt 36, 3) := by decide +kernel
theorem dX1_draw_12 : decode cX1_draw 12 = .ok (.aload_n 1, 1) := by decide +kernel
theorem dX1_draw_13 : decode cX1_draw 13 = .ok (.iload_n 3, 1) := by decide +kernel
theorem dX1_draw_14 : decode cX1_draw 14 = .ok (.invokevirtual 44, 3) := by decide +kernel
theorem dX1_draw_17 : decode cX1_draw 17 = .ok (.ifCond .eq 22, 3) := by decide +kernel
theorem dX1_draw_20 : decode cX1_draw 20 = .ok (.iload_n 2, 1) := by decide +kernel
theorem dX1_draw_21 : decode cX1_draw 21 = .ok (.ifCond .eq 12, 3) := by decide +kernel
theorem dX1_draw_24 : decode cX1_draw 24 = .ok (.aload_n 0, 1) := by decide +kernel
theorem dX1_draw_25 : decode cX1_draw 25 = .ok (.aload_n 1, 1) := by decide +kernel
theorem dX1_draw_26 : decode cX1_draw 26 = .ok (.iload_n 3, 1) := by decide +kernel
theorem dX1_draw_27 : decode cX1_draw 27 = .ok (.invokevirtual 50, 3) := by decide +kernel
theorem dX1_draw_30 : decode cX1_draw 30 = .ok (.goto 9, 3) := by decide +kernel
theorem dX1_draw_33 : decode cX1_draw 33 = .ok (.aload_n 0, 1) := by decide +kernel
theorem dX1_draw_34 : decode cX1_draw 34 = .ok (.aload_n 1, 1) := by decide +kernel
theorem dX1_draw_35 : decode cX1_draw 35 = .ok (.iload_n 3, 1) := by decide +kernel
theorem dX1_draw_36 : decode cX1_draw 36 = .ok (.invokevirtual 54, 3) := by decide +kernel
theorem dX1_draw_39 : decode cX1_draw 39 = .ok (.iinc 3 1, 3) := by decide +kernel
theorem dX1_draw_42 : decode cX1_draw 42 = .ok (.goto (-36), 3) := by decide +kernel
theorem dX1_draw_45 : decode cX1_draw 45 = .ok (.aload_n 0, 1) := by decide +kernel
theorem dX1_draw_46 : decode cX1_draw 46 = .ok (.aload_n 1, 1) := by decide +kernel
theorem dX1_draw_47 : decode cX1_draw 47 = .ok (.invokevirtual 57, 3) := by decide +kernel
theorem dX1_draw_50 : decode cX1_draw 50 = .ok (.return_, 1) := by decide +kernel
theorem dX1_addWhole_0 : decode cX1_addWhole 0 = .ok (.iconst 0, 1) := by decide +kernel
theorem dX1_addWhole_1 : decode cX1_addWhole 1 = .ok (.istore_n 3, 1) := by decide +kernel
theorem dX1_addWhole_2 : decode cX1_addWhole 2 = .ok (.iconst 0, 1) := by decide +kernel
theorem dX1_addWhole_3 : decode cX1_addWhole 3 = .ok (.istore 4, 2) := by decide +kernel
theorem dX1_addWhole_5 : decode cX1_addWhole 5 = .ok (.iload 4, 2) := by decide +kernel
theorem dX1_addWhole_7 : decode cX1_addWhole 7 = .ok (.bipush 20, 2) := by decide +kernel
theorem dX1_addWhole_9 : decode cX1_addWhole 9 = .ok (.if_icmp .ge 26, 3) := by decide +kernel
theorem dX1_addWhole_12 : decode cX1_addWhole 12 = .ok (.aload_n 1, 1) := by decide +kernel
theorem dX1_addWhole_13 : decode cX1_addWhole 13 = .ok (.iload_n 2, 1) := by decide +kernel
theorem dX1_addWhole_14 : decode cX1_addWhole 14 = .ok (.iload 4, 2) := by decide +kernel
theorem dX1_addWhole_16 : decode cX1_addWhole 16 = .ok (.invokevirtual 61, 3) := by decide +kernel
theorem dX1_addWhole_19 : decode cX1_addWhole 19 = .ok (.ifCond .eq 10, 3) := by decide +kernel
theorem dX1_addWhole_22 : decode cX1_addWhole 22 = .ok (.iload_n 3, 1) := by decide +kernel
theorem dX1_addWhole_23 : decode cX1_addWhole 23 = .ok (.iconst 1, 1) := by decide +kernel
theorem dX1_addWhole_24 : decode cX1_addWhole 24 = .ok (.iload 4, 2) := by decide +kernel
theorem dX1_addWhole_26 : decode cX1_addWhole 26 = .ok (.ishl, 1) := by decide +kernel
theorem dX1_addWhole_27 : decode cX1_addWhole 27 = .ok (.ior, 1) := by decide +kernel
theorem dX1_addWhole_28 : decode cX1_addWhole 28 = .ok (.istore_n 3, 1) := by decide +kernel
theorem dX1_addWhole_29 : decode cX1_addWhole 29 = .ok (.iinc 4 1, 3) := by decide +kernel
theorem dX1_addWhole_32 : decode cX1_addWhole 32 = .ok (.goto (-27), 3) := by decide +kernel
theorem dX1_addWhole_35 : decode cX1_addWhole 35 = .ok (.aload_n 0, 1) := by decide +kernel
theorem dX1_addWhole_36 : decode cX1_addWhole 36 = .ok (.iload_n 2, 1) := by decide +kernel
theorem dX1_addWhole_37 : decode cX1_addWhole 37 = .ok (.aload_n 1, 1) := by decide +kernel
theorem dX1_addWhole_38 : decode cX1_addWhole 38 = .ok (.iload_n 2, 1) := by decide +kernel
theorem dX1_addWhole_39 : decode cX1_addWhole 39 = .ok (.invokevirtual 65, 3) := by decide +kernel
theorem dX1_addWhole_42 : decode cX1_addWhole 42 = .ok (.aload_n 1, 1) := by decide +kernel
theorem dX1_addWhole_43 : decode cX1_addWhole 43 = .ok (.iload_n 2, 1) := by decide +kernel
theorem dX1_addWhole_44 : decode cX1_addWhole 44 = .ok (.invokevirtual 69, 3) := by decide +kernel
theorem dX1_addWhole_47 : decode cX1_addWhole 47 = .ok (.iload_n 3, 1) := by decide +kernel
theorem dX1_addWhole_48 : decode cX1_addWhole 48 = .ok (.invokevirtual 72, 3) := by decide +kernel
theorem dX1_addWhole_51 : decode cX1_addWhole 51 = .ok (.return_, 1) := by decide +kernel
theorem dX1_addPieces_0 : decode cX1_addPieces 0 = .ok (.iconst (-1), 1) := by decide +kernel
theorem dX1_addPieces_1 : decode cX1_addPieces 1 = .ok (.istore_n 3, 1) := by decide +kernel
theorem dX1_addPieces_2 : decode cX1_addPieces 2 = .ok (.iconst 0, 1) := by decide +kernel
theorem dX1_addPieces_3 : decode cX1_addPieces 3 = .ok (.istore 4, 2) := by decide +kernel
theorem dX1_addPieces_5 : decode cX1_addPieces 5 = .ok (.iload 4, 2) := by decide +kernel
theorem dX1_addPieces_7 : decode cX1_addPieces 7 = .ok (.bipush 20, 2) := by decide +kernel
theorem dX1_addPieces_9 : decode cX1_addPieces 9 = .ok (.if_icmp .ge 43, 3) := by decide +kernel
theorem dX1_addPieces_12 : decode cX1_addPieces 12 = .ok (.aload_n 1, 1) := by decide +kernel
theorem dX1_addPieces_13 : decode cX1_addPieces 13 = .ok (.iload_n 2, 1) := by decide +kernel
theorem dX1_addPieces_14 : decode cX1_addPieces 14 = .ok (.iload 4, 2) := by decide +kernel
theorem dX1_addPieces_16 : decode cX1_addPieces 16 = .ok (.invokevirtual 61, 3) := by decide +kernel
theorem dX1_addPieces_19 : decode cX1_addPieces 19 = .ok (.ifCond .eq 27, 3) := by decide +kernel
theorem dX1_addPieces_22 : decode cX1_addPieces 22 = .ok (.iload_n 3, 1) := by decide +kernel
theorem dX1_addPieces_23 : decode cX1_addPieces 23 = .ok (.iconst (-1), 1) := by decide +kernel
theorem dX1_addPieces_24 : decode cX1_addPieces 24 = .ok (.if_icmp .eq 19, 3) := by decide +kernel
theorem dX1_addPieces_27 : decode cX1_addPieces 27 = .ok (.aload_n 0, 1) := by decide +kernel
theorem dX1_addPieces_28 : decode cX1_addPieces 28 = .ok (.iload_n 2, 1) := by decide +kernel
theorem dX1_addPieces_29 : decode cX1_addPieces 29 = .ok (.iload_n 3, 1) := by decide +kernel
theorem dX1_addPieces_30 : decode cX1_addPieces 30 = .ok (.iload 4, 2) := by decide +kernel
theorem dX1_addPieces_32 : decode cX1_addPieces 32 = .ok (.iconst 1, 1) := by decide +kernel
theorem dX1_addPieces_33 : decode cX1_addPieces 33 = .ok (.iload_n 3, 1) := by decide +kernel
theorem dX1_addPieces_34 : decode cX1_addPieces 34 = .ok (.ishl, 1) := by decide +kernel
theorem dX1_addPieces_35 : decode cX1_addPieces 35 = .ok (.iconst 1, 1) := by decide +kernel
theorem dX1_addPieces_36 : decode cX1_addPieces 36 = .ok (.iload 4, 2) := by decide +kernel
theorem dX1_addPieces_38 : decode cX1_addPieces 38 = .ok (.ishl, 1) := by decide +kernel
theorem dX1_addPieces_39 : decode cX1_addPieces 39 = .ok (.ior, 1) := by decide +kernel
theorem dX1_addPieces_40 : decode cX1_addPieces 40 = .ok (.invokevirtual 72, 3) := by decide +kernel
theorem dX1_addPieces_43 : decode cX1_addPieces 43 = .ok (.iload 4, 2) := by decide +kernel
theorem dX1_addPieces_45 : decode cX1_addPieces 45 = .ok (.istore_n 3, 1) := by decide +kernel
theorem dX1_addPieces_46 : decode cX1_addPieces 46 = .ok (.iinc 4 1, 3) := by decide +kernel
theorem dX1_addPieces_49 : decode cX1_addPieces 49 = .ok (.goto (-44), 3) := by decide +kernel
theorem dX1_addPieces_52 : decode cX1_addPieces 52 = .ok (.return_, 1) := by decide +kernel
theorem dX1_add_0 : decode cX1_add 0 = .ok (.aload_n 0, 1) := by decide +kernel
theorem dX1_add_1 : decode cX1_add 1 = .ok (.getfield 34, 3) := by decide +kernel
theorem dX1_add_4 : decode cX1_add 4 = .ok (.bipush 38, 2) := by decide +kernel
theorem dX1_add_6 : decode cX1_add 6 = .ok (.if_icmp .ge 54, 3) := by decide +kernel
theorem dX1_add_9 : decode cX1_add 9 = .ok (.aload_n 0, 1) := by decide +kernel
theorem dX1_add_10 : decode cX1_add 10 = .ok (.getfield 9, 3) := by decide +kernel
theorem dX1_add_13 : decode cX1_add 13 = .ok (.aload_n 0, 1) := by decide +kernel
theorem dX1_add_14 : decode cX1_add 14 = .ok (.getfield 34, 3) := by decide +kernel
theorem dX1_add_17 : decode cX1_add 17 = .ok (.iload_n 1, 1) := by decide +kernel
theorem dX1_add_18 : decode cX1_add 18 = .ok (.iastore, 1) := by decide +kernel
theorem dX1_add_19 : decode cX1_add 19 = .ok (.aload_n 0, 1) := by decide +kernel
theorem dX1_add_20 : decode cX1_add 20 = .ok (.getfield 15, 3) := by decide +kernel
theorem dX1_add_23 : decode cX1_add 23 = .ok (.aload_n 0, 1) := by decide +kernel
theorem dX1_add_24 : decode cX1_add 24 = .ok (.getfield 34, 3) := by decide +kernel
theorem dX1_add_27 : decode cX1_add 27 = .ok (.iload_n 2, 1) := by decide +kernel
theorem dX1_add_28 : decode cX1_add 28 = .ok (.iastore, 1) := by decide +kernel
theorem dX1_add_29 : decode cX1_add 29 = .ok (.aload_n 0, 1) := by decide +kernel
theorem dX1_add_30 : decode cX1_add 30 = .ok (.getfield 18, 3) := by decide +kernel
theorem dX1_add_33 : decode cX1_add 33 = .ok (.aload_n 0, 1) := by decide +kernel
theorem dX1_add_34 : decode cX1_add 34 = .ok (.getfield 34, 3) := by decide +kernel
theorem dX1_add_37 : decode cX1_add 37 = .ok (.iload_n 3, 1) := by decide +kernel
theorem dX1_add_38 : decode cX1_add 38 = .ok (.iastore, 1) := by decide +kernel
theorem dX1_add_39 : decode cX1_add 39 = .ok (.aload_n 0, 1) := by decide +kernel
theorem dX1_add_40 : decode cX1_add 40 = .ok (.getfield 24, 3) := by decide +kernel
theorem dX1_add_43 : decode cX1_add 43 = .ok (.aload_n 0, 1) := by decide +kernel
theorem dX1_add_44 : decode cX1_add 44 = .ok (.getfield 34, 3) := by decide +kernel
theorem dX1_add_47 : decode cX1_add 47 = .ok (.iload 4, 2) := by decide +kernel
theorem dX1_add_49 : decode cX1_add 49 = .ok (.iastore, 1) := by decide +kernel
theorem dX1_add_50 : decode cX1_add 50 = .ok (.aload_n 0, 1) := by decide +kernel
theorem dX1_add_51 : decode cX1_add 51 = .ok (.dup, 1) := by decide +kernel
theorem dX1_add_52 : decode cX1_add 52 = .ok (.getfield 34, 3) := by decide +kernel
theorem dX1_add_55 : decode cX1_add 55 = .ok (.iconst 1, 1) := by decide +kernel
theorem dX1_add_56 : decode cX1_add 56 = .ok (.iadd, 1) := by decide +kernel
theorem dX1_add_57 : decode cX1_add 57 = .ok (.putfield 34, 3) := by decide +kernel
theorem dX1_add_60 : decode cX1_add 60 = .ok (.return_, 1) := by decide +kernel
theorem dX1_findBelow_0 : decode cX1_findBelow 0 = .ok (.aload_n 0, 1) := by decide +kernel
theorem dX1_findBelow_1 : decode cX1_findBelow 1 = .ok (.getfield 27, 3) := by decide +kernel
theorem dX1_findBelow_4 : decode cX1_findBelow 4 = .ok (.lconst 0, 1) := by decide +kernel
theorem dX1_findBelow_5 : decode cX1_findBelow 5 = .ok (.invokestatic 76, 3) := by decide +kernel
theorem dX1_findBelow_8 : decode cX1_findBelow 8 = .ok (.iconst 0, 1) := by decide +kernel
theorem dX1_findBelow_9 : decode cX1_findBelow 9 = .ok (.istore_n 2, 1) := by decide +kernel
theorem dX1_findBelow_10 : decode cX1_findBelow 10 = .ok (.iload_n 2, 1) := by decide +kernel
theorem dX1_findBelow_11 : decode cX1_findBelow 11 = .ok (.bipush 20, 2) := by decide +kernel
theorem dX1_findBelow_13 : decode cX1_findBelow 13 = .ok (.if_icmp .ge 47, 3) := by decide +kernel
theorem dX1_findBelow_16 : decode cX1_findBelow 16 = .ok (.aload_n 1, 1) := by decide +kernel
theorem dX1_findBelow_17 : decode cX1_findBelow 17 = .ok (.getfield 82, 3) := by decide +kernel
theorem dX1_findBelow_20 : decode cX1_findBelow 20 = .ok (.iload_n 2, 1) := by decide +kernel
theorem dX1_findBelow_21 : decode cX1_findBelow 21 = .ok (.iaload, 1) := by decide +kernel
theorem dX1_findBelow_22 : decode cX1_findBelow 22 = .ok (.istore_n 3, 1) := by decide +kernel
theorem dX1_findBelow_23 : decode cX1_findBelow 23 = .ok (.aload_n 1, 1) := by decide +kernel
theorem dX1_findBelow_24 : decode cX1_findBelow 24 = .ok (.getfield 85, 3) := by decide +kernel
theorem dX1_findBelow_27 : decode cX1_findBelow 27 = .ok (.iload_n 2, 1) := by decide +kernel
theorem dX1_findBelow_28 : decode cX1_findBelow 28 = .ok (.iaload, 1) := by decide +kernel
theorem dX1_findBelow_29 : decode cX1_findBelow 29 = .ok (.istore 4, 2) := by decide +kernel
theorem dX1_findBelow_31 : decode cX1_findBelow 31 = .ok (.iload_n 3, 1) := by decide +kernel
theorem dX1_findBelow_32 : decode cX1_findBelow 32 = .ok (.iload 4, 2) := by decide +kernel
theorem dX1_findBelow_34 : decode cX1_findBelow 34 = .ok (.if_icmp .eq 20, 3) := by decide +kernel
theorem dX1_findBelow_37 : decode cX1_findBelow 37 = .ok (.aload_n 0, 1) := by decide +kernel
theorem dX1_findBelow_38 : decode cX1_findBelow 38 = .ok (.aload_n 0, 1) := by decide +kernel
theorem dX1_findBelow_39 : decode cX1_findBelow 39 = .ok (.iload_n 2, 1) := by decide +kernel
theorem dX1_findBelow_40 : decode cX1_findBelow 40 = .ok (.iload_n 3, 1) := by decide +kernel
theorem dX1_findBelow_41 : decode cX1_findBelow 41 = .ok (.invokevirtual 88, 3) := by decide +kernel
theorem dX1_findBelow_44 : decode cX1_findBelow 44 = .ok (.aload_n 0, 1) := by decide +kernel
theorem dX1_findBelow_45 : decode cX1_findBelow 45 = .ok (.iload_n 2, 1) := by decide +kernel
theorem dX1_findBelow_46 : decode cX1_findBelow 46 = .ok (.iload 4, 2) := by decide +kernel
theorem dX1_findBelow_48 : decode cX1_findBelow 48 = .ok (.invokevirtual 88, 3) := by decide +kernel
theorem dX1_findBelow_51 : decode cX1_findBelow 51 = .ok (.invokevirtual 92, 3) := by decide +kernel
theorem dX1_findBelow_54 : decode cX1_findBelow 54 = .ok (.iinc 2 1, 3) := by decide +kernel
theorem dX1_findBelow_57 : decode cX1_findBelow 57 = .ok (.goto (-47), 3) := by decide +kernel
theorem dX1_findBelow_60 : decode cX1_findBelow 60 = .ok (.return_, 1) := by decide +kernel
theorem dX1_addBelow_0 : decode cX1_addBelow 0 = .ok (.iconst 0, 1) := by decide +kernel
theorem dX1_addBelow_1 : decode cX1_addBelow 1 = .ok (.istore 5, 2) := by decide +kernel
theorem dX1_addBelow_3 : decode cX1_addBelow 3 = .ok (.iload 5, 2) := by decide +kernel
theorem dX1_addBelow_5 : decode cX1_addBelow 5 = .ok (.aload_n 0, 1) := by decide +kernel
theorem dX1_addBelow_6 : decode cX1_addBelow 6 = .ok (.getfield 34, 3) := by decide +kernel
theorem dX1_addBelow_9 : decode cX1_addBelow 9 = .ok (.if_icmp .ge 29, 3) := by decide +kernel
theorem dX1_addBelow_12 : decode cX1_addBelow 12 = .ok (.lload_n 1, 1) := by decide +kernel
theorem dX1_addBelow_13 : decode cX1_addBelow 13 = .ok (.iload 5, 2) := by decide +kernel
theorem dX1_addBelow_15 : decode cX1_addBelow 15 = .ok (.invokestatic 96, 3) := by decide +kernel
theorem dX1_addBelow_18 : decode cX1_addBelow 18 = .ok (.ifCond .eq 14, 3) := by decide +kernel
theorem dX1_addBelow_21 : decode cX1_addBelow 21 = .ok (.aload_n 0, 1) := by decide +kernel
theorem dX1_addBelow_22 : decode cX1_addBelow 22 = .ok (.getfield 27, 3) := by decide +kernel
theorem dX1_addBelow_25 : decode cX1_addBelow 25 = .ok (.iload 5, 2) := by decide +kernel
theorem dX1_addBelow_27 : decode cX1_addBelow 27 = .ok (.dup2, 1) := by decide +kernel
theorem dX1_addBelow_28 : decode cX1_addBelow 28 = .ok (.laload, 1) := by decide +kernel
theorem dX1_addBelow_29 : decode cX1_addBelow 29 = .ok (.lload_n 3, 1) := by decide +kernel
theorem dX1_addBelow_30 : decode cX1_addBelow 30 = .ok (.lor, 1) := by decide +kernel
theorem dX1_addBelow_31 : decode cX1_addBelow 31 = .ok (.lastore, 1) := by decide +kernel
theorem dX1_addBelow_32 : decode cX1_addBelow 32 = .ok (.iinc 5 1, 3) := by decide +kernel
theorem dX1_addBelow_35 : decode cX1_addBelow 35 = .ok (.goto (-32), 3) := by decide +kernel
theorem dX1_addBelow_38 : decode cX1_addBelow 38 = .ok (.return_, 1) := by decide +kernel
theorem dX1_touching_0 : decode cX1_touching 0 = .ok (.lconst 0, 1) := by decide +kernel
theorem dX1_touching_1 : decode cX1_touching 1 = .ok (.lstore_n 3, 1) := by decide +kernel
theorem dX1_touching_2 : decode cX1_touching 2 = .ok (.iconst 0, 1) := by decide +kernel
theorem dX1_touching_3 : decode cX1_touching 3 = .ok (.istore 5, 2) := by decide +kernel
theorem dX1_touching_5 : decode cX1_touching 5 = .ok (.iload 5, 2) := by decide +kernel
theorem dX1_touching_7 : decode cX1_touching 7 = .ok (.aload_n 0, 1) := by decide +kernel
theorem dX1_touching_8 : decode cX1_touching 8 = .ok (.getfield 34, 3) := by decide +kernel
theorem dX1_touching_11 : decode cX1_touching 11 = .ok (.if_icmp .ge 27, 3) := by decide +kernel
theorem dX1_touching_14 : decode cX1_touching 14 = .ok (.aload_n 0, 1) := by decide +kernel
theorem dX1_touching_15 : decode cX1_touching 15 = .ok (.iload 5, 2) := by decide +kernel
theorem dX1_touching_17 : decode cX1_touching 17 = .ok (.iload_n 1, 1) := by decide +kernel
theorem dX1_touching_18 : decode cX1_touching 18 = .ok (.iload_n 2, 1) := by decide +kernel
theorem dX1_touching_19 : decode cX1_touching 19 = .ok (.invokevirtual 100, 3) := by decide +kernel
theorem dX1_touching_22 : decode cX1_touching 22 = .ok (.ifCond .eq 10, 3) := by decide +kernel
theorem dX1_touching_25 : decode cX1_touching 25 = .ok (.lload_n 3, 1) := by decide +kernel
theorem dX1_touching_26 : decode cX1_touching 26 = .ok (.lconst 1, 1) := by decide +kernel
theorem dX1_touching_27 : decode cX1_touching 27 = .ok (.iload 5, 2) := by decide +kernel
theorem dX1_touching_29 : decode cX1_touching 29 = .ok (.lshl, 1) := by decide +kernel
theorem dX1_touching_30 : decode cX1_touching 30 = .ok (.lor, 1) := by decide +kernel
theorem dX1_touching_31 : decode cX1_touching 31 = .ok (.lstore_n 3, 1) := by decide +kernel
theorem dX1_touching_32 : decode cX1_touching 32 = .ok (.iinc 5 1, 3) := by decide +kernel
theorem dX1_touching_35 : decode cX1_touching 35 = .ok (.goto (-30), 3) := by decide +kernel
theorem dX1_touching_38 : decode cX1_touching 38 = .ok (.lload_n 3, 1) := by decide +kernel
theorem dX1_touching_39 : decode cX1_touching 39 = .ok (.lreturn, 1) := by decide +kernel
theorem dX1_touches_0 : decode cX1_touches 0 = .ok (.aload_n 0, 1) := by decide +kernel
theorem dX1_touches_1 : decode cX1_touches 1 = .ok (.getfield 9, 3) := by decide +kernel
theorem dX1_touches_4 : decode cX1_touches 4 = .ok (.iload_n 1, 1) := by decide +kernel
theorem dX1_touches_5 : decode cX1_touches 5 = .ok (.iaload, 1) := by decide +kernel
theorem dX1_touches_6 : decode cX1_touches 6 = .ok (.iload_n 3, 1) := by decide +kernel
theorem dX1_touches_7 : decode cX1_touches 7 = .ok (.if_icmp .ne 20, 3) := by decide +kernel
theorem dX1_touches_10 : decode cX1_touches 10 = .ok (.aload_n 0, 1) := by decide +kernel
theorem dX1_touches_11 : decode cX1_touches 11 = .ok (.getfield 24, 3) := by decide +kernel
theorem dX1_touches_14 : decode cX1_touches 14 = .ok (.iload_n 1, 1) := by decide +kernel
theorem dX1_touches_15 : decode cX1_touches 15 = .ok (.iaload, 1) := by decide +kernel
theorem dX1_touches_16 : decode cX1_touches 16 = .ok (.iload_n 2, 1) := by decide +kernel
theorem dX1_touches_17 : decode cX1_touches 17 = .ok (.ishr, 1) := by decide +kernel
theorem dX1_touches_18 : decode cX1_touches 18 = .ok (.iconst 1, 1) := by decide +kernel
theorem dX1_touches_19 : decode cX1_touches 19 = .ok (.iand, 1) := by decide +kernel
theorem dX1_touches_20 : decode cX1_touches 20 = .ok (.ifCond .eq 7, 3) := by decide +kernel
theorem dX1_touches_23 : decode cX1_touches 23 = .ok (.iconst 1, 1) := by decide +kernel
theorem dX1_touches_24 : decode cX1_touches 24 = .ok (.goto 4, 3) := by decide +kernel
theorem dX1_touches_27 : decode cX1_touches 27 = .ok (.iconst 0, 1) := by decide +kernel
theorem dX1_touches_28 : decode cX1_touches 28 = .ok (.ireturn, 1) := by decide +kernel
theorem dX1_countPairs_0 : decode cX1_countPairs 0 = .ok (.iconst 0, 1) := by decide +kernel
theorem dX1_countPairs_1 : decode cX1_countPairs 1 = .ok (.istore_n 1, 1) := by decide +kernel
theorem dX1_countPairs_2 : decode cX1_countPairs 2 = .ok (.iconst 0, 1) := by decide +kernel
theorem dX1_countPairs_3 : decode cX1_countPairs 3 = .ok (.istore_n 2, 1) := by decide +kernel
theorem dX1_countPairs_4 : decode cX1_countPairs 4 = .ok (.iload_n 2, 1) := by decide +kernel
theorem dX1_countPairs_5 : decode cX1_countPairs 5 = .ok (.aload_n 0, 1) := by decide +kernel
theorem dX1_countPairs_6 : decode cX1_countPairs 6 = .ok (.getfield 34, 3) := by decide +kernel
theorem dX1_countPairs_9 : decode cX1_countPairs 9 = .ok (.if_icmp .ge 21, 3) := by decide +kernel
theorem dX1_countPairs_12 : decode cX1_countPairs 12 = .ok (.iload_n 1, 1) := by decide +kernel
theorem dX1_countPairs_13 : decode cX1_countPairs 13 = .ok (.aload_n 0, 1) := by decide +kernel
theorem dX1_countPairs_14 : decode cX1_countPairs 14 = .ok (.getfield 27, 3) := by decide +kernel
theorem dX1_countPairs_17 : decode cX1_countPairs 17 = .ok (.iload_n 2, 1) := by decide +kernel
theorem dX1_countPairs_18 : decode cX1_countPairs 18 = .ok (.laload, 1) := by decide +kernel
theorem dX1_countPairs_19 : decode cX1_countPairs 19 = .ok (.invokestatic 104, 3) := by decide +kernel
theorem dX1_countPairs_22 : decode cX1_countPairs 22 = .ok (.iadd, 1) := by decide +kernel
theorem dX1_countPairs_23 : decode cX1_countPairs 23 = .ok (.istore_n 1, 1) := by decide +kernel
theorem dX1_countPairs_24 : decode cX1_countPairs 24 = .ok (.iinc 2 1, 3) := by decide +kernel
theorem dX1_countPairs_27 : decode cX1_countPairs 27 = .ok (.goto (-23), 3) := by decide +kernel
theorem dX1_countPairs_30 : decode cX1_countPairs 30 = .ok (.iload_n 1, 1) := by decide +kernel
theorem dX1_countPairs_31 : decode cX1_countPairs 31 = .ok (.ireturn, 1) := by decide +kernel
theorem dX1_fillTracks_0 : decode cX1_fillTracks 0 = .ok (.aload_n 0, 1) := by decide +kernel
theorem dX1_fillTracks_1 : decode cX1_fillTracks 1 = .ok (.invokevirtual 110, 3) := by decide +kernel
theorem dX1_fillTracks_4 : decode cX1_fillTracks 4 = .ok (.lconst 1, 1) := by decide +kernel
theorem dX1_fillTracks_5 : decode cX1_fillTracks 5 = .ok (.aload_n 0, 1) := by decide +kernel
theorem dX1_fillTracks_6 : decode cX1_fillTracks 6 = .ok (.getfield 34, 3) := by decide +kernel
theorem dX1_fillTracks_9 : decode cX1_fillTracks 9 = .ok (.lshl, 1) := by decide +kernel
theorem dX1_fillTracks_10 : decode cX1_fillTracks 10 = .ok (.lconst 1, 1) := by decide +kernel
theorem dX1_fillTracks_11 : decode cX1_fillTracks 11 = .ok (.lsub, 1) := by decide +kernel
theorem dX1_fillTracks_12 : decode cX1_fillTracks 12 = .ok (.lstore_n 1, 1) := by decide +kernel
theorem dX1_fillTracks_13 : decode cX1_fillTracks 13 = .ok (.aload_n 0, 1) := by decide +kernel
theorem dX1_fillTracks_14 : decode cX1_fillTracks 14 = .ok (.iconst 0, 1) := by decide +kernel
theorem dX1_fillTracks_15 : decode cX1_fillTracks 15 = .ok (.putfield 38, 3) := by decide +kernel
theorem dX1_fillTracks_18 : decode cX1_fillTracks 18 = .ok (.lload_n 1, 1) := by decide +kernel
theorem dX1_fillTracks_19 : decode cX1_fillTracks 19 = .ok (.lconst 0, 1) := by decide +kernel
theorem dX1_fillTracks_20 : decode cX1_fillTracks 20 = .ok (.lcmp, 1) := by decide +kernel
theorem dX1_fillTracks_21 : decode cX1_fillTracks 21 = .ok (.ifCond .eq 49, 3) := by decide +kernel
theorem dX1_fillTracks_24 : decode cX1_fillTracks 24 = .ok (.aload_n 0, 1) := by decide +kernel
theorem dX1_fillTracks_25 : decode cX1_fillTracks 25 = .ok (.getfield 38, 3) := by decide +kernel
theorem dX1_fillTracks_28 : decode cX1_fillTracks 28 = .ok (.aload_n 0, 1) := by decide +kernel
theorem dX1_fillTracks_29 : decode cX1_fillTracks 29 = .ok (.getfield 34, 3) := by decide +kernel
theorem dX1_fillTracks_32 : decode cX1_fillTracks 32 = .ok (.if_icmp .ge 38, 3) := by decide +kernel
theorem dX1_fillTracks_35 : decode cX1_fillTracks 35 = .ok (.lload_n 1, 1) := by decide +kernel
theorem dX1_fillTracks_36 : decode cX1_fillTracks 36 = .ok (.aload_n 0, 1) := by decide +kernel
theorem dX1_fillTracks_37 : decode cX1_fillTracks 37 = .ok (.lload_n 1, 1) := by decide +kernel
theorem dX1_fillTracks_38 : decode cX1_fillTracks 38 = .ok (.aload_n 0, 1) := by decide +kernel
theorem dX1_fillTracks_39 : decode cX1_fillTracks 39 = .ok (.lload_n 1, 1) := by decide +kernel
theorem dX1_fillTracks_40 : decode cX1_fillTracks 40 = .ok (.invokevirtual 113, 3) := by decide +kernel
theorem dX1_fillTracks_43 : decode cX1_fillTracks 43 = .ok (.ldc2_w 117, 3) := by decide +kernel
theorem dX1_fillTracks_46 : decode cX1_fillTracks 46 = .ok (.lxor, 1) := by decide +kernel
theorem dX1_fillTracks_47 : decode cX1_fillTracks 47 = .ok (.land, 1) := by decide +kernel
theorem dX1_fillTracks_48 : decode cX1_fillTracks 48 = .ok (.invokevirtual 119, 3) := by decide +kernel
theorem dX1_fillTracks_51 : decode cX1_fillTracks 51 = .ok (.ldc2_w 117, 3) := by decide +kernel
theorem dX1_fillTracks_54 : decode cX1_fillTracks 54 = .ok (.lxor, 1) := by decide +kernel
theorem dX1_fillTracks_55 : decode cX1_fillTracks 55 = .ok (.land, 1) := by decide +kernel
theorem dX1_fillTracks_56 : decode cX1_fillTracks 56 = .ok (.lstore_n 1, 1) := by decide +kernel
theorem dX1_fillTracks_57 : decode cX1_fillTracks 57 = .ok (.aload_n 0, 1) := by decide +kernel
theorem dX1_fillTracks_58 : decode cX1_fillTracks 58 = .ok (.dup, 1) := by decide +kernel
theorem dX1_fillTracks_59 : decode cX1_fillTracks 59 = .ok (.getfield 38, 3) := by decide +kernel
theorem dX1_fillTracks_62 : decode cX1_fillTracks 62 = .ok (.iconst 1, 1) := by decide +kernel
theorem dX1_fillTracks_63 : decode cX1_fillTracks 63 = .ok (.iadd, 1) := by decide +kernel
theorem dX1_fillTracks_64 : decode cX1_fillTracks 64 = .ok (.putfield 38, 3) := by decide +kernel
theorem dX1_fillTracks_67 : decode cX1_fillTracks 67 = .ok (.goto (-49), 3) := by decide +kernel
theorem dX1_fillTracks_70 : decode cX1_fillTracks 70 = .ok (.return_, 1) := by decide +kernel
theorem dX1_sortByLeft_0 : decode cX1_sortByLeft 0 = .ok (.iconst 0, 1) := by decide +kernel
theorem dX1_sortByLeft_1 : decode cX1_sortByLeft 1 = .ok (.istore_n 1, 1) := by decide +kernel
theorem dX1_sortByLeft_2 : decode cX1_sortByLeft 2 = .ok (.iconst 0, 1) := by decide +kernel
theorem dX1_sortByLeft_3 : decode cX1_sortByLeft 3 = .ok (.istore_n 2, 1) := by decide +kernel
theorem dX1_sortByLeft_4 : decode cX1_sortByLeft 4 = .ok (.iload_n 2, 1) := by decide +kernel
theorem dX1_sortByLeft_5 : decode cX1_sortByLeft 5 = .ok (.bipush 20, 2) := by decide +kernel
theorem dX1_sortByLeft_7 : decode cX1_sortByLeft 7 = .ok (.if_icmp .ge 45, 3) := by decide +kernel
theorem dX1_sortByLeft_10 : decode cX1_sortByLeft 10 = .ok (.iconst 0, 1) := by decide +kernel
theorem dX1_sortByLeft_11 : decode cX1_sortByLeft 11 = .ok (.istore_n 3, 1) := by decide +kernel
theorem dX1_sortByLeft_12 : decode cX1_sortByLeft 12 = .ok (.iload_n 3, 1) := by decide +kernel
theorem dX1_sortByLeft_13 : decode cX1_sortByLeft 13 = .ok (.aload_n 0, 1) := by decide +kernel
theorem dX1_sortByLeft_14 : decode cX1_sortByLeft 14 = .ok (.getfield 34, 3) := by decide +kernel
theorem dX1_sortByLeft_17 : decode cX1_sortByLeft 17 = .ok (.if_icmp .ge 29, 3) := by decide +kernel
theorem dX1_sortByLeft_20 : decode cX1_sortByLeft 20 = .ok (.aload_n 0, 1) := by decide +kernel
theorem dX1_sortByLeft_21 : decode cX1_sortByLeft 21 = .ok (.getfield 15, 3) := by decide +kernel
theorem dX1_sortByLeft_24 : decode cX1_sortByLeft 24 = .ok (.iload_n 3, 1) := by decide +kernel
theorem dX1_sortByLeft_25 : decode cX1_sortByLeft 25 = .ok (.iaload, 1) := by decide +kernel
theorem dX1_sortByLeft_26 : decode cX1_sortByLeft 26 = .ok (.iload_n 2, 1) := by decide +kernel
theorem dX1_sortByLeft_27 : decode cX1_sortByLeft 27 = .ok (.if_icmp .ne 13, 3) := by decide +kernel
theorem dX1_sortByLeft_30 : decode cX1_sortByLeft 30 = .ok (.aload_n 0, 1) := by decide +kernel
theorem dX1_sortByLeft_31 : decode cX1_sortByLeft 31 = .ok (.getfield 31, 3) := by decide +kernel
theorem dX1_sortByLeft_34 : decode cX1_sortByLeft 34 = .ok (.iload_n 1, 1) := by decide +kernel
theorem dX1_sortByLeft_35 : decode cX1_sortByLeft 35 = .ok (.iload_n 3, 1) := by decide +kernel
theorem dX1_sortByLeft_36 : decode cX1_sortByLeft 36 = .ok (.iastore, 1) := by decide +kernel
theorem dX1_sortByLeft_37 : decode cX1_sortByLeft 37 = .ok (.iinc 1 1, 3) := by decide +kernel
theorem dX1_sortByLeft_40 : decode cX1_sortByLeft 40 = .ok (.iinc 3 1, 3) := by decide +kernel
theorem dX1_sortByLeft_43 : decode cX1_sortByLeft 43 = .ok (.goto (-31), 3) := by decide +kernel
theorem dX1_sortByLeft_46 : decode cX1_sortByLeft 46 = .ok (.iinc 2 1, 3) := by decide +kernel
theorem dX1_sortByLeft_49 : decode cX1_sortByLeft 49 = .ok (.goto (-45), 3) := by decide +kernel
theorem dX1_sortByLeft_52 : decode cX1_sortByLeft 52 = .ok (.return_, 1) := by decide +kernel
theorem dX1_belowAnyOf_0 : decode cX1_belowAnyOf 0 = .ok (.lconst 0, 1) := by decide +kernel
theorem dX1_belowAnyOf_1 : decode cX1_belowAnyOf 1 = .ok (.lstore_n 3, 1) := by decide +kernel
theorem dX1_belowAnyOf_2 : decode cX1_belowAnyOf 2 = .ok (.iconst 0, 1) := by decide +kernel
theorem dX1_belowAnyOf_3 : decode cX1_belowAnyOf 3 = .ok (.istore 5, 2) := by decide +kernel
theorem dX1_belowAnyOf_5 : decode cX1_belowAnyOf 5 = .ok (.iload 5, 2) := by decide +kernel
theorem dX1_belowAnyOf_7 : decode cX1_belowAnyOf 7 = .ok (.aload_n 0, 1) := by decide +kernel
theorem dX1_belowAnyOf_8 : decode cX1_belowAnyOf 8 = .ok (.getfield 34, 3) := by decide +kernel
theorem dX1_belowAnyOf_11 : decode cX1_belowAnyOf 11 = .ok (.if_icmp .ge 28, 3) := by decide +kernel
theorem dX1_belowAnyOf_14 : decode cX1_belowAnyOf 14 = .ok (.lload_n 1, 1) := by decide +kernel
theorem dX1_belowAnyOf_15 : decode cX1_belowAnyOf 15 = .ok (.iload 5, 2) := by decide +kernel
theorem dX1_belowAnyOf_17 : decode cX1_belowAnyOf 17 = .ok (.invokestatic 96, 3) := by decide +kernel
theorem dX1_belowAnyOf_20 : decode cX1_belowAnyOf 20 = .ok (.ifCond .eq 13, 3) := by decide +kernel
theorem dX1_belowAnyOf_23 : decode cX1_belowAnyOf 23 = .ok (.lload_n 3, 1) := by decide +kernel
theorem dX1_belowAnyOf_24 : decode cX1_belowAnyOf 24 = .ok (.aload_n 0, 1) := by decide +kernel
theorem dX1_belowAnyOf_25 : decode cX1_belowAnyOf 25 = .ok (.getfield 27, 3) := by decide +kernel
theorem dX1_belowAnyOf_28 : decode cX1_belowAnyOf 28 = .ok (.iload 5, 2) := by decide +kernel
theorem dX1_belowAnyOf_30 : decode cX1_belowAnyOf 30 = .ok (.laload, 1) := by decide +kernel
theorem dX1_belowAnyOf_31 : decode cX1_belowAnyOf 31 = .ok (.lor, 1) := by decide +kernel
theorem dX1_belowAnyOf_32 : decode cX1_belowAnyOf 32 = .ok (.lstore_n 3, 1) := by decide +kernel
theorem dX1_belowAnyOf_33 : decode cX1_belowAnyOf 33 = .ok (.iinc 5 1, 3) := by decide +kernel
theorem dX1_belowAnyOf_36 : decode cX1_belowAnyOf 36 = .ok (.goto (-31), 3) := by decide +kernel
theorem dX1_belowAnyOf_39 : decode cX1_belowAnyOf 39 = .ok (.lload_n 3, 1) := by decide +kernel
theorem dX1_belowAnyOf_40 : decode cX1_belowAnyOf 40 = .ok (.lreturn, 1) := by decide +kernel
theorem dX1_fillTrack_0 : decode cX1_fillTrack 0 = .ok (.lconst 0, 1) := by decide +kernel
theorem dX1_fillTrack_1 : decode cX1_fillTrack 1 = .ok (.lstore_n 3, 1) := by decide +kernel
theorem dX1_fillTrack_2 : decode cX1_fillTrack 2 = .ok (.iconst (-1), 1) := by decide +kernel
theorem dX1_fillTrack_3 : decode cX1_fillTrack 3 = .ok (.istore 5, 2) := by decide +kernel
theorem dX1_fillTrack_5 : decode cX1_fillTrack 5 = .ok (.iconst 0, 1) := by decide +kernel
theorem dX1_fillTrack_6 : decode cX1_fillTrack 6 = .ok (.istore 6, 2) := by decide +kernel
theorem dX1_fillTrack_8 : decode cX1_fillTrack 8 = .ok (.iload 6, 2) := by decide +kernel
theorem dX1_fillTrack_10 : decode cX1_fillTrack 10 = .ok (.aload_n 0, 1) := by decide +kernel
theorem dX1_fillTrack_11 : decode cX1_fillTrack 11 = .ok (.getfield 34, 3) := by decide +kernel
theorem dX1_fillTrack_14 : decode cX1_fillTrack 14 = .ok (.if_icmp .ge 60, 3) := by decide +kernel
theorem dX1_fillTrack_17 : decode cX1_fillTrack 17 = .ok (.aload_n 0, 1) := by decide +kernel
theorem dX1_fillTrack_18 : decode cX1_fillTrack 18 = .ok (.getfield 31, 3) := by decide +kernel
theorem dX1_fillTrack_21 : decode cX1_fillTrack 21 = .ok (.iload 6, 2) := by decide +kernel
theorem dX1_fillTrack_23 : decode cX1_fillTrack 23 = .ok (.iaload, 1) := by decide +kernel
theorem dX1_fillTrack_24 : decode cX1_fillTrack 24 = .ok (.istore 7, 2) := by decide +kernel
theorem dX1_fillTrack_26 : decode cX1_fillTrack 26 = .ok (.lload_n 1, 1) := by decide +kernel
theorem dX1_fillTrack_27 : decode cX1_fillTrack 27 = .ok (.iload 7, 2) := by decide +kernel
theorem dX1_fillTrack_29 : decode cX1_fillTrack 29 = .ok (.invokestatic 96, 3) := by decide +kernel
theorem dX1_fillTrack_32 : decode cX1_fillTrack 32 = .ok (.ifCond .eq 36, 3) := by decide +kernel
theorem dX1_fillTrack_35 : decode cX1_fillTrack 35 = .ok (.aload_n 0, 1) := by decide +kernel
theorem dX1_fillTrack_36 : decode cX1_fillTrack 36 = .ok (.iload 5, 2) := by decide +kernel
theorem dX1_fillTrack_38 : decode cX1_fillTrack 38 = .ok (.iload 7, 2) := by decide +kernel
theorem dX1_fillTrack_40 : decode cX1_fillTrack 40 = .ok (.invokevirtual 122, 3) := by decide +kernel
theorem dX1_fillTrack_43 : decode cX1_fillTrack 43 = .ok (.ifCond .eq 25, 3) := by decide +kernel
theorem dX1_fillTrack_46 : decode cX1_fillTrack 46 = .ok (.aload_n 0, 1) := by decide +kernel
theorem dX1_fillTrack_47 : decode cX1_fillTrack 47 = .ok (.getfield 21, 3) := by decide +kernel
theorem dX1_fillTrack_50 : decode cX1_fillTrack 50 = .ok (.iload 7, 2) := by decide +kernel
theorem dX1_fillTrack_52 : decode cX1_fillTrack 52 = .ok (.aload_n 0, 1) := by decide +kernel
theorem dX1_fillTrack_53 : decode cX1_fillTrack 53 = .ok (.getfield 38, 3) := by decide +kernel
theorem dX1_fillTrack_56 : decode cX1_fillTrack 56 = .ok (.iastore, 1) := by decide +kernel
theorem dX1_fillTrack_57 : decode cX1_fillTrack 57 = .ok (.lload_n 3, 1) := by decide +kernel
theorem dX1_fillTrack_58 : decode cX1_fillTrack 58 = .ok (.lconst 1, 1) := by decide +kernel
theorem dX1_fillTrack_59 : decode cX1_fillTrack 59 = .ok (.iload 7, 2) := by decide +kernel
theorem dX1_fillTrack_61 : decode cX1_fillTrack 61 = .ok (.lshl, 1) := by decide +kernel
theorem dX1_fillTrack_62 : decode cX1_fillTrack 62 = .ok (.lor, 1) := by decide +kernel
theorem dX1_fillTrack_63 : decode cX1_fillTrack 63 = .ok (.lstore_n 3, 1) := by decide +kernel
theorem dX1_fillTrack_64 : decode cX1_fillTrack 64 = .ok (.iload 7, 2) := by decide +kernel
theorem dX1_fillTrack_66 : decode cX1_fillTrack 66 = .ok (.istore 5, 2) := by decide +kernel
theorem dX1_fillTrack_68 : decode cX1_fillTrack 68 = .ok (.iinc 6 1, 3) := by decide +kernel
theorem dX1_fillTrack_71 : decode cX1_fillTrack 71 = .ok (.goto (-63), 3) := by decide +kernel
theorem dX1_fillTrack_74 : decode cX1_fillTrack 74 = .ok (.lload_n 3, 1) := by decide +kernel
theorem dX1_fillTrack_75 : decode cX1_fillTrack 75 = .ok (.lreturn, 1) := by decide +kernel
theorem dX1_fitsBehind_0 : decode cX1_fitsBehind 0 = .ok (.iload_n 1, 1) := by decide +kernel
theorem dX1_fitsBehind_1 : decode cX1_fitsBehind 1 = .ok (.iconst (-1), 1) := by decide +kernel
theorem dX1_fitsBehind_2 : decode cX1_fitsBehind 2 = .ok (.if_icmp .eq 18, 3) := by decide +kernel
theorem dX1_fitsBehind_5 : decode cX1_fitsBehind 5 = .ok (.aload_n 0, 1) := by decide +kernel
theorem dX1_fitsBehind_6 : decode cX1_fitsBehind 6 = .ok (.getfield 15, 3) := by decide +kernel
theorem dX1_fitsBehind_9 : decode cX1_fitsBehind 9 = .ok (.iload_n 2, 1) := by decide +kernel
theorem dX1_fitsBehind_10 : decode cX1_fitsBehind 10 = .ok (.iaload, 1) := by decide +kernel
theorem dX1_fitsBehind_11 : decode cX1_fitsBehind 11 = .ok (.aload_n 0, 1) := by decide +kernel
theorem dX1_fitsBehind_12 : decode cX1_fitsBehind 12 = .ok (.getfield 18, 3) := by decide +kernel
theorem dX1_fitsBehind_15 : decode cX1_fitsBehind 15 = .ok (.iload_n 1, 1) := by decide +kernel
theorem dX1_fitsBehind_16 : decode cX1_fitsBehind 16 = .ok (.iaload, 1) := by decide +kernel
theorem dX1_fitsBehind_17 : decode cX1_fitsBehind 17 = .ok (.if_icmp .le 5, 3) := by decide +kernel
theorem dX1_fitsBehind_20 : decode cX1_fitsBehind 20 = .ok (.iconst 1, 1) := by decide +kernel
theorem dX1_fitsBehind_21 : decode cX1_fitsBehind 21 = .ok (.ireturn, 1) := by decide +kernel
theorem dX1_fitsBehind_22 : decode cX1_fitsBehind 22 = .ok (.aload_n 0, 1) := by decide +kernel
theorem dX1_fitsBehind_23 : decode cX1_fitsBehind 23 = .ok (.getfield 15, 3) := by decide +kernel
theorem dX1_fitsBehind_26 : decode cX1_fitsBehind 26 = .ok (.iload_n 2, 1) := by decide +kernel
theorem dX1_fitsBehind_27 : decode cX1_fitsBehind 27 = .ok (.iaload, 1) := by decide +kernel
theorem dX1_fitsBehind_28 : decode cX1_fitsBehind 28 = .ok (.aload_n 0, 1) := by decide +kernel
theorem dX1_fitsBehind_29 : decode cX1_fitsBehind 29 = .ok (.getfield 18, 3) := by decide +kernel
theorem dX1_fitsBehind_32 : decode cX1_fitsBehind 32 = .ok (.iload_n 1, 1) := by decide +kernel
theorem dX1_fitsBehind_33 : decode cX1_fitsBehind 33 = .ok (.iaload, 1) := by decide +kernel
theorem dX1_fitsBehind_34 : decode cX1_fitsBehind 34 = .ok (.if_icmp .ne 22, 3) := by decide +kernel
theorem dX1_fitsBehind_37 : decode cX1_fitsBehind 37 = .ok (.aload_n 0, 1) := by decide +kernel
theorem dX1_fitsBehind_38 : decode cX1_fitsBehind 38 = .ok (.getfield 9, 3) := by decide +kernel
theorem dX1_fitsBehind_41 : decode cX1_fitsBehind 41 = .ok (.iload_n 2, 1) := by decide +kernel
theorem dX1_fitsBehind_42 : decode cX1_fitsBehind 42 = .ok (.iaload, 1) := by decide +kernel
theorem dX1_fitsBehind_43 : decode cX1_fitsBehind 43 = .ok (.aload_n 0, 1) := by decide +kernel
theorem dX1_fitsBehind_44 : decode cX1_fitsBehind 44 = .ok (.getfield 9, 3) := by decide +kernel
theorem dX1_fitsBehind_47 : decode cX1_fitsBehind 47 = .ok (.iload_n 1, 1) := by decide +kernel
theorem dX1_fitsBehind_48 : decode cX1_fitsBehind 48 = .ok (.iaload, 1) := by decide +kernel
theorem dX1_fitsBehind_49 : decode cX1_fitsBehind 49 = .ok (.if_icmp .ne 7, 3) := by decide +kernel
theorem dX1_fitsBehind_52 : decode cX1_fitsBehind 52 = .ok (.iconst 1, 1) := by decide +kernel
theorem dX1_fitsBehind_53 : decode cX1_fitsBehind 53 = .ok (.goto 4, 3) := by decide +kernel
theorem dX1_fitsBehind_56 : decode cX1_fitsBehind 56 = .ok (.iconst 0, 1) := by decide +kernel
theorem dX1_fitsBehind_57 : decode cX1_fitsBehind 57 = .ok (.ireturn, 1) := by decide +kernel
theorem dX1_netOn_0 : decode cX1_netOn 0 = .ok (.iconst 0, 1) := by decide +kernel
theorem dX1_netOn_1 : decode cX1_netOn 1 = .ok (.istore_n 3, 1) := by decide +kernel
theorem dX1_netOn_2 : decode cX1_netOn 2 = .ok (.iload_n 3, 1) := by decide +kernel
theorem dX1_netOn_3 : decode cX1_netOn 3 = .ok (.aload_n 0, 1) := by decide +kernel
theorem dX1_netOn_4 : decode cX1_netOn 4 = .ok (.getfield 34, 3) := by decide +kernel
theorem dX1_netOn_7 : decode cX1_netOn 7 = .ok (.if_icmp .ge 46, 3) := by decide +kernel
theorem dX1_netOn_10 : decode cX1_netOn 10 = .ok (.aload_n 0, 1) := by decide +kernel
theorem dX1_netOn_11 : decode cX1_netOn 11 = .ok (.getfield 21, 3) := by decide +kernel
theorem dX1_netOn_14 : decode cX1_netOn 14 = .ok (.iload_n 3, 1) := by decide +kernel
theorem dX1_netOn_15 : decode cX1_netOn 15 = .ok (.iaload, 1) := by decide +kernel
theorem dX1_netOn_16 : decode cX1_netOn 16 = .ok (.iload_n 1, 1) := by decide +kernel
theorem dX1_netOn_17 : decode cX1_netOn 17 = .ok (.if_icmp .ne 30, 3) := by decide +kernel
theorem dX1_netOn_20 : decode cX1_netOn 20 = .ok (.aload_n 0, 1) := by decide +kernel
theorem dX1_netOn_21 : decode cX1_netOn 21 = .ok (.getfield 15, 3) := by decide +kernel
theorem dX1_netOn_24 : decode cX1_netOn 24 = .ok (.iload_n 3, 1) := by decide +kernel
theorem dX1_netOn_25 : decode cX1_netOn 25 = .ok (.iaload, 1) := by decide +kernel
theorem dX1_netOn_26 : decode cX1_netOn 26 = .ok (.iload_n 2, 1) := by decide +kernel
theorem dX1_netOn_27 : decode cX1_netOn 27 = .ok (.if_icmp .gt 20, 3) := by decide +kernel
theorem dX1_netOn_30 : decode cX1_netOn 30 = .ok (.iload_n 2, 1) := by decide +kernel
theorem dX1_netOn_31 : decode cX1_netOn 31 = .ok (.aload_n 0, 1) := by decide +kernel
theorem dX1_netOn_32 : decode cX1_netOn 32 = .ok (.getfield 18, 3) := by decide +kernel
theorem dX1_netOn_35 : decode cX1_netOn 35 = .ok (.iload_n 3, 1) := by decide +kernel
theorem dX1_netOn_36 : decode cX1_netOn 36 = .ok (.iaload, 1) := by decide +kernel
theorem dX1_netOn_37 : decode cX1_netOn 37 = .ok (.if_icmp .gt 10, 3) := by decide +kernel
theorem dX1_netOn_40 : decode cX1_netOn 40 = .ok (.aload_n 0, 1) := by decide +kernel
theorem dX1_netOn_41 : decode cX1_netOn 41 = .ok (.getfield 9, 3) := by decide +kernel
theorem dX1_netOn_44 : decode cX1_netOn 44 = .ok (.iload_n 3, 1) := by decide +kernel
theorem dX1_netOn_45 : decode cX1_netOn 45 = .ok (.iaload, 1) := by decide +kernel
theorem dX1_netOn_46 : decode cX1_netOn 46 = .ok (.ireturn, 1) := by decide +kernel
theorem dX1_netOn_47 : decode cX1_netOn 47 = .ok (.iinc 3 1, 3) := by decide +kernel
theorem dX1_netOn_50 : decode cX1_netOn 50 = .ok (.goto (-48), 3) := by decide +kernel
theorem dX1_netOn_53 : decode cX1_netOn 53 = .ok (.iconst 0, 1) := by decide +kernel
theorem dX1_netOn_54 : decode cX1_netOn 54 = .ok (.ireturn, 1) := by decide +kernel
theorem dX1_touchesOn_0 : decode cX1_touchesOn 0 = .ok (.iconst 0, 1) := by decide +kernel
theorem dX1_touchesOn_1 : decode cX1_touchesOn 1 = .ok (.istore 4, 2) := by decide +kernel
theorem dX1_touchesOn_3 : decode cX1_touchesOn 3 = .ok (.iload 4, 2) := by decide +kernel
theorem dX1_touchesOn_5 : decode cX1_touchesOn 5 = .ok (.aload_n 0, 1) := by decide +kernel
theorem dX1_touchesOn_6 : decode cX1_touchesOn 6 = .ok (.getfield 34, 3) := by decide +kernel
theorem dX1_touchesOn_9 : decode cX1_touchesOn 9 = .ok (.if_icmp .ge 33, 3) := by decide +kernel
theorem dX1_touchesOn_12 : decode cX1_touchesOn 12 = .ok (.aload_n 0, 1) := by decide +kernel
theorem dX1_touchesOn_13 : decode cX1_touchesOn 13 = .ok (.getfield 21, 3) := by decide +kernel
theorem dX1_touchesOn_16 : decode cX1_touchesOn 16 = .ok (.iload 4, 2) := by decide +kernel
theorem dX1_touchesOn_18 : decode cX1_touchesOn 18 = .ok (.iaload, 1) := by decide +kernel
theorem dX1_touchesOn_19 : decode cX1_touchesOn 19 = .ok (.iload_n 1, 1) := by decide +kernel
theorem dX1_touchesOn_20 : decode cX1_touchesOn 20 = .ok (.if_icmp .ne 16, 3) := by decide +kernel
theorem dX1_touchesOn_23 : decode cX1_touchesOn 23 = .ok (.aload_n 0, 1) := by decide +kernel
theorem dX1_touchesOn_24 : decode cX1_touchesOn 24 = .ok (.iload 4, 2) := by decide +kernel
theorem dX1_touchesOn_26 : decode cX1_touchesOn 26 = .ok (.iload_n 2, 1) := by decide +kernel
theorem dX1_touchesOn_27 : decode cX1_touchesOn 27 = .ok (.iload_n 3, 1) := by decide +kernel
theorem dX1_touchesOn_28 : decode cX1_touchesOn 28 = .ok (.invokevirtual 100, 3) := by decide +kernel
theorem dX1_touchesOn_31 : decode cX1_touchesOn 31 = .ok (.ifCond .eq 5, 3) := by decide +kernel
theorem dX1_touchesOn_34 : decode cX1_touchesOn 34 = .ok (.iconst 1, 1) := by decide +kernel
theorem dX1_touchesOn_35 : decode cX1_touchesOn 35 = .ok (.ireturn, 1) := by decide +kernel
theorem dX1_touchesOn_36 : decode cX1_touchesOn 36 = .ok (.iinc 4 1, 3) := by decide +kernel
theorem dX1_touchesOn_39 : decode cX1_touchesOn 39 = .ok (.goto (-36), 3) := by decide +kernel
theorem dX1_touchesOn_42 : decode cX1_touchesOn 42 = .ok (.iconst 0, 1) := by decide +kernel
theorem dX1_touchesOn_43 : decode cX1_touchesOn 43 = .ok (.ireturn, 1) := by decide +kernel
theorem dX1_greatestTrack_0 : decode cX1_greatestTrack 0 = .ok (.iconst (-1), 1) := by decide +kernel
theorem dX1_greatestTrack_1 : decode cX1_greatestTrack 1 = .ok (.istore_n 3, 1) := by decide +kernel
theorem dX1_greatestTrack_2 : decode cX1_greatestTrack 2 = .ok (.iconst 0, 1) := by decide +kernel
theorem dX1_greatestTrack_3 : decode cX1_greatestTrack 3 = .ok (.istore 4, 2) := by decide +kernel
theorem dX1_greatestTrack_5 : decode cX1_greatestTrack 5 = .ok (.iload 4, 2) := by decide +kernel
theorem dX1_greatestTrack_7 : decode cX1_greatestTrack 7 = .ok (.aload_n 0, 1) := by decide +kernel
theorem dX1_greatestTrack_8 : decode cX1_greatestTrack 8 = .ok (.getfield 34, 3) := by decide +kernel
theorem dX1_greatestTrack_11 : decode cX1_greatestTrack 11 = .ok (.if_icmp .ge 32, 3) := by decide +kernel
theorem dX1_greatestTrack_14 : decode cX1_greatestTrack 14 = .ok (.aload_n 0, 1) := by decide +kernel
theorem dX1_greatestTrack_15 : decode cX1_greatestTrack 15 = .ok (.iload 4, 2) := by decide +kernel
theorem dX1_greatestTrack_17 : decode cX1_greatestTrack 17 = .ok (.iload_n 2, 1) := by decide +kernel
theorem dX1_greatestTrack_18 : decode cX1_greatestTrack 18 = .ok (.iload_n 1, 1) := by decide +kernel
theorem dX1_greatestTrack_19 : decode cX1_greatestTrack 19 = .ok (.invokevirtual 100, 3) := by decide +kernel
theorem dX1_greatestTrack_22 : decode cX1_greatestTrack 22 = .ok (.ifCond .eq 15, 3) := by decide +kernel
theorem dX1_greatestTrack_25 : decode cX1_greatestTrack 25 = .ok (.iload_n 3, 1) := by decide +kernel
theorem dX1_greatestTrack_26 : decode cX1_greatestTrack 26 = .ok (.aload_n 0, 1) := by decide +kernel
theorem dX1_greatestTrack_27 : decode cX1_greatestTrack 27 = .ok (.getfield 21, 3) := by decide +kernel
theorem dX1_greatestTrack_30 : decode cX1_greatestTrack 30 = .ok (.iload 4, 2) := by decide +kernel
theorem dX1_greatestTrack_32 : decode cX1_greatestTrack 32 = .ok (.iaload, 1) := by decide +kernel
theorem dX1_greatestTrack_33 : decode cX1_greatestTrack 33 = .ok (.invokestatic 125, 3) := by decide +kernel
theorem dX1_greatestTrack_36 : decode cX1_greatestTrack 36 = .ok (.istore_n 3, 1) := by decide +kernel
theorem dX1_greatestTrack_37 : decode cX1_greatestTrack 37 = .ok (.iinc 4 1, 3) := by decide +kernel
theorem dX1_greatestTrack_40 : decode cX1_greatestTrack 40 = .ok (.goto (-35), 3) := by decide +kernel
theorem dX1_greatestTrack_43 : decode cX1_greatestTrack 43 = .ok (.iload_n 3, 1) := by decide +kernel
theorem dX1_greatestTrack_44 : decode cX1_greatestTrack 44 = .ok (.ireturn, 1) := by decide +kernel
theorem dX1_leastTrack_0 : decode cX1_leastTrack 0 = .ok (.aload_n 0, 1) := by decide +kernel
theorem dX1_leastTrack_1 : decode cX1_leastTrack 1 = .ok (.getfield 38, 3) := by decide +kernel
theorem dX1_leastTrack_4 : decode cX1_leastTrack 4 = .ok (.istore_n 3, 1) := by decide +kernel
theorem dX1_leastTrack_5 : decode cX1_leastTrack 5 = .ok (.iconst 0, 1) := by decide +kernel
theorem dX1_leastTrack_6 : decode cX1_leastTrack 6 = .ok (.istore 4, 2) := by decide +kernel
theorem dX1_leastTrack_8 : decode cX1_leastTrack 8 = .ok (.iload 4, 2) := by decide +kernel
theorem dX1_leastTrack_10 : decode cX1_leastTrack 10 = .ok (.aload_n 0, 1) := by decide +kernel
theorem dX1_leastTrack_11 : decode cX1_leastTrack 11 = .ok (.getfield 34, 3) := by decide +kernel
theorem dX1_leastTrack_14 : decode cX1_leastTrack 14 = .ok (.if_icmp .ge 32, 3) := by decide +kernel
theorem dX1_leastTrack_17 : decode cX1_leastTrack 17 = .ok (.aload_n 0, 1) := by decide +kernel
theorem dX1_leastTrack_18 : decode cX1_leastTrack 18 = .ok (.iload 4, 2) := by decide +kernel
theorem dX1_leastTrack_20 : decode cX1_leastTrack 20 = .ok (.iload_n 2, 1) := by decide +kernel
theorem dX1_leastTrack_21 : decode cX1_leastTrack 21 = .ok (.iload_n 1, 1) := by decide +kernel
theorem dX1_leastTrack_22 : decode cX1_leastTrack 22 = .ok (.invokevirtual 100, 3) := by decide +kernel
theorem dX1_leastTrack_25 : decode cX1_leastTrack 25 = .ok (.ifCond .eq 15, 3) := by decide +kernel
theorem dX1_leastTrack_28 : decode cX1_leastTrack 28 = .ok (.iload_n 3, 1) := by decide +kernel
theorem dX1_leastTrack_29 : decode cX1_leastTrack 29 = .ok (.aload_n 0, 1) := by decide +kernel
theorem dX1_leastTrack_30 : decode cX1_leastTrack 30 = .ok (.getfield 21, 3) := by decide +kernel
theorem dX1_leastTrack_33 : decode cX1_leastTrack 33 = .ok (.iload 4, 2) := by decide +kernel
theorem dX1_leastTrack_35 : decode cX1_leastTrack 35 = .ok (.iaload, 1) := by decide +kernel
theorem dX1_leastTrack_36 : decode cX1_leastTrack 36 = .ok (.invokestatic 131, 3) := by decide +kernel
theorem dX1_leastTrack_39 : decode cX1_leastTrack 39 = .ok (.istore_n 3, 1) := by decide +kernel
theorem dX1_leastTrack_40 : decode cX1_leastTrack 40 = .ok (.iinc 4 1, 3) := by decide +kernel
theorem dX1_leastTrack_43 : decode cX1_leastTrack 43 = .ok (.goto (-35), 3) := by decide +kernel
theorem dX1_leastTrack_46 : decode cX1_leastTrack 46 = .ok (.iload_n 3, 1) := by decide +kernel
theorem dX1_leastTrack_47 : decode cX1_leastTrack 47 = .ok (.ireturn, 1) := by decide +kernel
theorem dX1_countPoints_0 : decode cX1_countPoints 0 = .ok (.iconst 0, 1) := by decide +kernel
theorem dX1_countPoints_1 : decode cX1_countPoints 1 = .ok (.istore_n 1, 1) := by decide +kernel
theorem dX1_countPoints_2 : decode cX1_countPoints 2 = .ok (.iconst 0, 1) := by decide +kernel
theorem dX1_countPoints_3 : decode cX1_countPoints 3 = .ok (.istore_n 2, 1) := by decide +kernel
theorem dX1_countPoints_4 : decode cX1_countPoints 4 = .ok (.iload_n 2, 1) := by decide +kernel
theorem dX1_countPoints_5 : decode cX1_countPoints 5 = .ok (.aload_n 0, 1) := by decide +kernel
theorem dX1_countPoints_6 : decode cX1_countPoints 6 = .ok (.getfield 38, 3) := by decide +kernel
theorem dX1_countPoints_9 : decode cX1_countPoints 9 = .ok (.if_icmp .ge 35, 3) := by decide +kernel
theorem dX1_countPoints_12 : decode cX1_countPoints 12 = .ok (.iconst 0, 1) := by decide +kernel
theorem dX1_countPoints_13 : decode cX1_countPoints 13 = .ok (.istore_n 3, 1) := by decide +kernel
theorem dX1_countPoints_14 : decode cX1_countPoints 14 = .ok (.iload_n 3, 1) := by decide +kernel
theorem dX1_countPoints_15 : decode cX1_countPoints 15 = .ok (.bipush 20, 2) := by decide +kernel
theorem dX1_countPoints_17 : decode cX1_countPoints 17 = .ok (.if_icmp .ge 21, 3) := by decide +kernel
theorem dX1_countPoints_20 : decode cX1_countPoints 20 = .ok (.aload_n 0, 1) := by decide +kernel
theorem dX1_countPoints_21 : decode cX1_countPoints 21 = .ok (.iload_n 2, 1) := by decide +kernel
theorem dX1_countPoints_22 : decode cX1_countPoints 22 = .ok (.iload_n 3, 1) := by decide +kernel
theorem dX1_countPoints_23 : decode cX1_countPoints 23 = .ok (.invokevirtual 134, 3) := by decide +kernel
theorem dX1_countPoints_26 : decode cX1_countPoints 26 = .ok (.ifCond .eq 6, 3) := by decide +kernel
theorem dX1_countPoints_29 : decode cX1_countPoints 29 = .ok (.iinc 1 1, 3) := by decide +kernel
theorem dX1_countPoints_32 : decode cX1_countPoints 32 = .ok (.iinc 3 1, 3) := by decide +kernel
theorem dX1_countPoints_35 : decode cX1_countPoints 35 = .ok (.goto (-21), 3) := by decide +kernel
theorem dX1_countPoints_38 : decode cX1_countPoints 38 = .ok (.iinc 2 1, 3) := by decide +kernel
theorem dX1_countPoints_41 : decode cX1_countPoints 41 = .ok (.goto (-37), 3) := by decide +kernel
theorem dX1_countPoints_44 : decode cX1_countPoints 44 = .ok (.iload_n 1, 1) := by decide +kernel
theorem dX1_countPoints_45 : decode cX1_countPoints 45 = .ok (.ireturn, 1) := by decide +kernel
theorem dX1_isIn_0 : decode cX1_isIn 0 = .ok (.lload_n 0, 1) := by decide +kernel
theorem dX1_isIn_1 : decode cX1_isIn 1 = .ok (.iload_n 2, 1) := by decide +kernel
theorem dX1_isIn_2 : decode cX1_isIn 2 = .ok (.lshr, 1) := by decide +kernel
theorem dX1_isIn_3 : decode cX1_isIn 3 = .ok (.lconst 1, 1) := by decide +kernel
theorem dX1_isIn_4 : decode cX1_isIn 4 = .ok (.land, 1) := by decide +kernel
theorem dX1_isIn_5 : decode cX1_isIn 5 = .ok (.lconst 0, 1) := by decide +kernel
theorem dX1_isIn_6 : decode cX1_isIn 6 = .ok (.lcmp, 1) := by decide +kernel
theorem dX1_isIn_7 : decode cX1_isIn 7 = .ok (.ifCond .eq 7, 3) := by decide +kernel
theorem dX1_isIn_10 : decode cX1_isIn 10 = .ok (.iconst 1, 1) := by decide +kernel
theorem dX1_isIn_11 : decode cX1_isIn 11 = .ok (.goto 4, 3) := by decide +kernel
theorem dX1_isIn_14 : decode cX1_isIn 14 = .ok (.iconst 0, 1) := by decide +kernel
theorem dX1_isIn_15 : decode cX1_isIn 15 = .ok (.ireturn, 1) := by decide +kernel
theorem dX2_init_0 : decode cX2_init 0 = .ok (.aload_n 0, 1) := by decide +kernel
theorem dX2_init_1 : decode cX2_init 1 = .ok (.invokespecial 3, 3) := by decide +kernel
theorem dX2_init_4 : decode cX2_init 4 = .ok (.aload_n 0, 1) := by decide +kernel
theorem dX2_init_5 : decode cX2_init 5 = .ok (.bipush 38, 2) := by decide +kernel
theorem dX2_init_7 : decode cX2_init 7 = .ok (.newarray .long, 2) := by decide +kernel
theorem dX2_init_9 : decode cX2_init 9 = .ok (.putfield 9, 3) := by decide +kernel
theorem dX2_init_12 : decode cX2_init 12 = .ok (.aload_n 0, 1) := by decide +kernel
theorem dX2_init_13 : decode cX2_init 13 = .ok (.bipush 38, 2) := by decide +kernel
theorem dX2_init_15 : decode cX2_init 15 = .ok (.newarray .int, 2) := by decide +kernel
theorem dX2_init_17 : decode cX2_init 17 = .ok (.putfield 15, 3) := by decide +kernel
theorem dX2_init_20 : decode cX2_init 20 = .ok (.aload_n 0, 1) := by decide +kernel
theorem dX2_init_21 : decode cX2_init 21 = .ok (.bipush 38, 2) := by decide +kernel
theorem dX2_init_23 : decode cX2_init 23 = .ok (.newarray .int, 2) := by decide +kernel
theorem dX2_init_25 : decode cX2_init 25 = .ok (.putfield 19, 3) := by decide +kernel
theorem dX2_init_28 : decode cX2_init 28 = .ok (.aload_n 0, 1) := by decide +kernel
theorem dX2_init_29 : decode cX2_init 29 = .ok (.iconst 0, 1) := by decide +kernel
theorem dX2_init_30 : decode cX2_init 30 = .ok (.putfield 22, 3) := by decide +kernel
theorem dX2_init_33 : decode cX2_init 33 = .ok (.return_, 1) := by decide +kernel
theorem dX2_toldAt_0 : decode cX2_toldAt 0 = .ok (.iload_n 1, 1) := by decide +kernel
theorem dX2_toldAt_1 : decode cX2_toldAt 1 = .ok (.ifCond .lt 20, 3) := by decide +kernel
theorem dX2_toldAt_4 : decode cX2_toldAt 4 = .ok (.iload_n 1, 1) := by decide +kernel
theorem dX2_toldAt_5 : decode cX2_toldAt 5 = .ok (.aload_n 0, 1) := by decide +kernel
theorem dX2_toldAt_6 : decode cX2_toldAt 6 = .ok (.getfield 22, 3) := by decide +kernel
theorem dX2_toldAt_9 : decode cX2_toldAt 9 = .ok (.if_icmp .ge 12, 3) := by decide +kernel
theorem dX2_toldAt_12 : decode cX2_toldAt 12 = .ok (.aload_n 0, 1) := by decide +kernel
theorem dX2_toldAt_13 : decode cX2_toldAt 13 = .ok (.getfield 19, 3) := by decide +kernel
theorem dX2_toldAt_16 : decode cX2_toldAt 16 = .ok (.iload_n 1, 1) := by decide +kernel
theorem dX2_toldAt_17 : decode cX2_toldAt 17 = .ok (.iaload, 1) := by decide +kernel
theorem dX2_toldAt_18 : decode cX2_toldAt 18 = .ok (.goto 4, 3) := by decide +kernel
theorem dX2_toldAt_21 : decode cX2_toldAt 21 = .ok (.iconst (-1), 1) := by decide +kernel
theorem dX2_toldAt_22 : decode cX2_toldAt 22 = .ok (.ireturn, 1) := by decide +kernel
theorem dX2_lowestInRing_0 : decode cX2_lowestInRing 0 = .ok (.aload_n 0, 1) := by decide +kernel
theorem dX2_lowestInRing_1 : decode cX2_lowestInRing 1 = .ok (.aload_n 1, 1) := by decide +kernel
theorem dX2_lowestInRing_2 : decode cX2_lowestInRing 2 = .ok (.invokevirtual 26, 3) := by decide +kernel
theorem dX2_lowestInRing_5 : decode cX2_lowestInRing 5 = .ok (.iconst 0, 1) := by decide +kernel
theorem dX2_lowestInRing_6 : decode cX2_lowestInRing 6 = .ok (.istore_n 2, 1) := by decide +kernel
theorem dX2_lowestInRing_7 : decode cX2_lowestInRing 7 = .ok (.iload_n 2, 1) := by decide +kernel
theorem dX2_lowestInRing_8 : decode cX2_lowestInRing 8 = .ok (.aload_n 1, 1) := by decide +kernel
theorem dX2_lowestInRing_9 : decode cX2_lowestInRing 9 = .ok (.getfield 30, 3) := by decide +kernel
theorem dX2_lowestInRing_12 : decode cX2_lowestInRing 12 = .ok (.if_icmp .ge 24, 3) := by decide +kernel
theorem dX2_lowestInRing_15 : decode cX2_lowestInRing 15 = .ok (.aload_n 0, 1) := by decide +kernel
theorem dX2_lowestInRing_16 : decode cX2_lowestInRing 16 = .ok (.getfield 9, 3) := by decide +kernel
theorem dX2_lowestInRing_19 : decode cX2_lowestInRing 19 = .ok (.iload_n 2, 1) := by decide +kernel
theorem dX2_lowestInRing_20 : decode cX2_lowestInRing 20 = .ok (.laload, 1) := by decide +kernel
theorem dX2_lowestInRing_21 : decode cX2_lowestInRing 21 = .ok (.iload_n 2, 1) := by decide +kernel
theorem dX2_lowestInRing_22 : decode cX2_lowestInRing 22 = .ok (.invokestatic 35, 3) := by decide +kernel
theorem dX2_lowestInRing_25 : decode cX2_lowestInRing 25 = .ok (.ifCond .eq 5, 3) := by decide +kernel
theorem dX2_lowestInRing_28 : decode cX2_lowestInRing 28 = .ok (.iload_n 2, 1) := by decide +kernel
theorem dX2_lowestInRing_29 : decode cX2_lowestInRing 29 = .ok (.ireturn, 1) := by decide +kernel
theorem dX2_lowestInRing_30 : decode cX2_lowestInRing 30 = .ok (.iinc 2 1, 3) := by decide +kernel
theorem dX2_lowestInRing_33 : decode cX2_lowestInRing 33 = .ok (.goto (-26), 3) := by decide +kernel
theorem dX2_lowestInRing_36 : decode cX2_lowestInRing 36 = .ok (.iconst (-1), 1) := by decide +kernel
theorem dX2_lowestInRing_37 : decode cX2_lowestInRing 37 = .ok (.ireturn, 1) := by decide +kernel
theorem dX2_findReach_0 : decode cX2_findReach 0 = .ok (.aload_n 1, 1) := by decide +kernel
theorem dX2_findReach_1 : decode cX2_findReach 1 = .ok (.getfield 39, 3) := by decide +kernel
theorem dX2_findReach_4 : decode cX2_findReach 4 = .ok (.iconst 0, 1) := by decide +kernel
theorem dX2_findReach_5 : decode cX2_findReach 5 = .ok (.aload_n 0, 1) := by decide +kernel
theorem dX2_findReach_6 : decode cX2_findReach 6 = .ok (.getfield 9, 3) := by decide +kernel
theorem dX2_findReach_9 : decode cX2_findReach 9 = .ok (.iconst 0, 1) := by decide +kernel
theorem dX2_findReach_10 : decode cX2_findReach 10 = .ok (.bipush 38, 2) := by decide +kernel
theorem dX2_findReach_12 : decode cX2_findReach 12 = .ok (.invokestatic 42, 3) := by decide +kernel
theorem dX2_findReach_15 : decode cX2_findReach 15 = .ok (.iconst 0, 1) := by decide +kernel
theorem dX2_findReach_16 : decode cX2_findReach 16 = .ok (.istore_n 2, 1) := by decide +kernel
theorem dX2_findReach_17 : decode cX2_findReach 17 = .ok (.iload_n 2, 1) := by decide +kernel
theorem dX2_findReach_18 : decode cX2_findReach 18 = .ok (.aload_n 1, 1) := by decide +kernel
theorem dX2_findReach_19 : decode cX2_findReach 19 = .ok (.getfield 30, 3) := by decide +kernel
theorem dX2_findReach_22 : decode cX2_findReach 22 = .ok (.if_icmp .ge 53, 3) := by decide +kernel
theorem dX2_findReach_25 : decode cX2_findReach 25 = .ok (.iconst 0, 1) := by decide +kernel
theorem dX2_findReach_26 : decode cX2_findReach 26 = .ok (.istore_n 3, 1) := by decide +kernel
theorem dX2_findReach_27 : decode cX2_findReach 27 = .ok (.iload_n 3, 1) := by decide +kernel
theorem dX2_findReach_28 : decode cX2_findReach 28 = .ok (.aload_n 1, 1) := by decide +kernel
theorem dX2_findReach_29 : decode cX2_findReach 29 = .ok (.getfield 30, 3) := by decide +kernel
theorem dX2_findReach_32 : decode cX2_findReach 32 = .ok (.if_icmp .ge 37, 3) := by decide +kernel
theorem dX2_findReach_35 : decode cX2_findReach 35 = .ok (.aload_n 0, 1) := by decide +kernel
theorem dX2_findReach_36 : decode cX2_findReach 36 = .ok (.getfield 9, 3) := by decide +kernel
theorem dX2_findReach_39 : decode cX2_findReach 39 = .ok (.iload_n 3, 1) := by decide +kernel
theorem dX2_findReach_40 : decode cX2_findReach 40 = .ok (.laload, 1) := by decide +kernel
theorem dX2_findReach_41 : decode cX2_findReach 41 = .ok (.iload_n 2, 1) := by decide +kernel
theorem dX2_findReach_42 : decode cX2_findReach 42 = .ok (.invokestatic 35, 3) := by decide +kernel
theorem dX2_findReach_45 : decode cX2_findReach 45 = .ok (.ifCond .eq 18, 3) := by decide +kernel
theorem dX2_findReach_48 : decode cX2_findReach 48 = .ok (.aload_n 0, 1) := by decide +kernel
theorem dX2_findReach_49 : decode cX2_findReach 49 = .ok (.getfield 9, 3) := by decide +kernel
theorem dX2_findReach_52 : decode cX2_findReach 52 = .ok (.iload_n 3, 1) := by decide +kernel
theorem dX2_findReach_53 : decode cX2_findReach 53 = .ok (.dup2, 1) := by decide +kernel
theorem dX2_findReach_54 : decode cX2_findReach 54 = .ok (.laload, 1) := by decide +kernel
theorem dX2_findReach_55 : decode cX2_findReach 55 = .ok (.aload_n 0, 1) := by decide +kernel
theorem dX2_findReach_56 : decode cX2_findReach 56 = .ok (.getfield 9, 3) := by decide +kernel
theorem dX2_findReach_59 : decode cX2_findReach 59 = .ok (.iload_n 2, 1) := by decide +kernel
theorem dX2_findReach_60 : decode cX2_findReach 60 = .ok (.laload, 1) := by decide +kernel
theorem dX2_findReach_61 : decode cX2_findReach 61 = .ok (.lor, 1) := by decide +kernel
theorem dX2_findReach_62 : decode cX2_findReach 62 = .ok (.lastore, 1) := by decide +kernel
theorem dX2_findReach_63 : decode cX2_findReach 63 = .ok (.iinc 3 1, 3) := by decide +kernel
theorem dX2_findReach_66 : decode cX2_findReach 66 = .ok (.goto (-39), 3) := by decide +kernel
theorem dX2_findReach_69 : decode cX2_findReach 69 = .ok (.iinc 2 1, 3) := by decide +kernel
theorem dX2_findReach_72 : decode cX2_findReach 72 = .ok (.goto (-55), 3) := by decide +kernel
theorem dX2_findReach_75 : decode cX2_findReach 75 = .ok (.return_, 1) := by decide +kernel
theorem dX2_tell_0 : decode cX2_tell 0 = .ok (.aload_n 0, 1) := by decide +kernel
theorem dX2_tell_1 : decode cX2_tell 1 = .ok (.aload_n 1, 1) := by decide +kernel
theorem dX2_tell_2 : decode cX2_tell 2 = .ok (.invokevirtual 48, 3) := by decide +kernel
theorem dX2_tell_5 : decode cX2_tell 5 = .ok (.istore_n 2, 1) := by decide +kernel
theorem dX2_tell_6 : decode cX2_tell 6 = .ok (.aload_n 0, 1) := by decide +kernel
theorem dX2_tell_7 : decode cX2_tell 7 = .ok (.iconst 0, 1) := by decide +kernel
theorem dX2_tell_8 : decode cX2_tell 8 = .ok (.putfield 22, 3) := by decide +kernel
theorem dX2_tell_11 : decode cX2_tell 11 = .ok (.iload_n 2, 1) := by decide +kernel
theorem dX2_tell_12 : decode cX2_tell 12 = .ok (.iconst (-1), 1) := by decide +kernel
theorem dX2_tell_13 : decode cX2_tell 13 = .ok (.if_icmp .ne 4, 3) := by decide +kernel
theorem dX2_tell_16 : decode cX2_tell 16 = .ok (.return_, 1) := by decide +kernel
theorem dX2_tell_17 : decode cX2_tell 17 = .ok (.aload_n 0, 1) := by decide +kernel
theorem dX2_tell_18 : decode cX2_tell 18 = .ok (.aload_n 1, 1) := by decide +kernel
theorem dX2_tell_19 : decode cX2_tell 19 = .ok (.iload_n 2, 1) := by decide +kernel
theorem dX2_tell_20 : decode cX2_tell 20 = .ok (.invokevirtual 52, 3) := by decide +kernel
theorem dX2_tell_23 : decode cX2_tell 23 = .ok (.iload_n 2, 1) := by decide +kernel
theorem dX2_tell_24 : decode cX2_tell 24 = .ok (.istore_n 3, 1) := by decide +kernel
theorem dX2_tell_25 : decode cX2_tell 25 = .ok (.aload_n 0, 1) := by decide +kernel
theorem dX2_tell_26 : decode cX2_tell 26 = .ok (.getfield 19, 3) := by decide +kernel
theorem dX2_tell_29 : decode cX2_tell 29 = .ok (.aload_n 0, 1) := by decide +kernel
theorem dX2_tell_30 : decode cX2_tell 30 = .ok (.getfield 22, 3) := by decide +kernel
theorem dX2_tell_33 : decode cX2_tell 33 = .ok (.iload_n 3, 1) := by decide +kernel
theorem dX2_tell_34 : decode cX2_tell 34 = .ok (.iastore, 1) := by decide +kernel
theorem dX2_tell_35 : decode cX2_tell 35 = .ok (.aload_n 0, 1) := by decide +kernel
theorem dX2_tell_36 : decode cX2_tell 36 = .ok (.dup, 1) := by decide +kernel
theorem dX2_tell_37 : decode cX2_tell 37 = .ok (.getfield 22, 3) := by decide +kernel
theorem dX2_tell_40 : decode cX2_tell 40 = .ok (.iconst 1, 1) := by decide +kernel
theorem dX2_tell_41 : decode cX2_tell 41 = .ok (.iadd, 1) := by decide +kernel
theorem dX2_tell_42 : decode cX2_tell 42 = .ok (.putfield 22, 3) := by decide +kernel
theorem dX2_tell_45 : decode cX2_tell 45 = .ok (.aload_n 0, 1) := by decide +kernel
theorem dX2_tell_46 : decode cX2_tell 46 = .ok (.aload_n 1, 1) := by decide +kernel
theorem dX2_tell_47 : decode cX2_tell 47 = .ok (.iload_n 3, 1) := by decide +kernel
theorem dX2_tell_48 : decode cX2_tell 48 = .ok (.invokevirtual 56, 3) := by decide +kernel
theorem dX2_tell_51 : decode cX2_tell 51 = .ok (.istore_n 3, 1) := by decide +kernel
theorem dX2_tell_52 : decode cX2_tell 52 = .ok (.iload_n 3, 1) := by decide +kernel
theorem dX2_tell_53 : decode cX2_tell 53 = .ok (.iload_n 2, 1) := by decide +kernel
theorem dX2_tell_54 : decode cX2_tell 54 = .ok (.if_icmp .eq 19, 3) := by decide +kernel
theorem dX2_tell_57 : decode cX2_tell 57 = .ok (.iload_n 3, 1) := by decide +kernel
theorem dX2_tell_58 : decode cX2_tell 58 = .ok (.iconst (-1), 1) := by decide +kernel
theorem dX2_tell_59 : decode cX2_tell 59 = .ok (.if_icmp .eq 14, 3) := by decide +kernel
theorem dX2_tell_62 : decode cX2_tell 62 = .ok (.aload_n 0, 1) := by decide +kernel
theorem dX2_tell_63 : decode cX2_tell 63 = .ok (.getfield 22, 3) := by decide +kernel
theorem dX2_tell_66 : decode cX2_tell 66 = .ok (.aload_n 1, 1) := by decide +kernel
theorem dX2_tell_67 : decode cX2_tell 67 = .ok (.getfield 30, 3) := by decide +kernel
theorem dX2_tell_70 : decode cX2_tell 70 = .ok (.if_icmp .lt (-45), 3) := by decide +kernel
theorem dX2_tell_73 : decode cX2_tell 73 = .ok (.return_, 1) := by decide +kernel
theorem dX2_countStepsTo_0 : decode cX2_countStepsTo 0 = .ok (.aload_n 0, 1) := by decide +kernel
theorem dX2_countStepsTo_1 : decode cX2_countStepsTo 1 = .ok (.getfield 15, 3) := by decide +kernel
theorem dX2_countStepsTo_4 : decode cX2_countStepsTo 4 = .ok (.iconst (-1), 1) := by decide +kernel
theorem dX2_countStepsTo_5 : decode cX2_countStepsTo 5 = .ok (.invokestatic 60, 3) := by decide +kernel
theorem dX2_countStepsTo_8 : decode cX2_countStepsTo 8 = .ok (.aload_n 0, 1) := by decide +kernel
theorem dX2_countStepsTo_9 : decode cX2_countStepsTo 9 = .ok (.getfield 15, 3) := by decide +kernel
theorem dX2_countStepsTo_12 : decode cX2_countStepsTo 12 = .ok (.iload_n 2, 1) := by decide +kernel
theorem dX2_countStepsTo_13 : decode cX2_countStepsTo 13 = .ok (.iconst 0, 1) := by decide +kernel
theorem dX2_countStepsTo_14 : decode cX2_countStepsTo 14 = .ok (.iastore, 1) := by decide +kernel
theorem dX2_countStepsTo_15 : decode cX2_countStepsTo 15 = .ok (.lconst 1, 1) := by decide +kernel
theorem dX2_countStepsTo_16 : decode cX2_countStepsTo 16 = .ok (.iload_n 2, 1) := by decide +kernel
theorem dX2_countStepsTo_17 : decode cX2_countStepsTo 17 = .ok (.lshl, 1) := by decide +kernel
theorem dX2_countStepsTo_18 : decode cX2_countStepsTo 18 = .ok (.lstore_n 3, 1) := by decide +kernel
theorem dX2_countStepsTo_19 : decode cX2_countStepsTo 19 = .ok (.iconst 1, 1) := by decide +kernel
theorem dX2_countStepsTo_20 : decode cX2_countStepsTo 20 = .ok (.istore 5, 2) := by decide +kernel
theorem dX2_countStepsTo_22 : decode cX2_countStepsTo 22 = .ok (.iload 5, 2) := by decide +kernel
theorem dX2_countStepsTo_24 : decode cX2_countStepsTo 24 = .ok (.aload_n 1, 1) := by decide +kernel
theorem dX2_countStepsTo_25 : decode cX2_countStepsTo 25 = .ok (.getfield 30, 3) := by decide +kernel
theorem dX2_countStepsTo_28 : decode cX2_countStepsTo 28 = .ok (.if_icmp .ge 72, 3) := by decide +kernel
theorem dX2_countStepsTo_31 : decode cX2_countStepsTo 31 = .ok (.lload_n 3, 1) := by decide +kernel
theorem dX2_countStepsTo_32 : decode cX2_countStepsTo 32 = .ok (.lstore 6, 2) := by decide +kernel
theorem dX2_countStepsTo_34 : decode cX2_countStepsTo 34 = .ok (.iconst 0, 1) := by decide +kernel
theorem dX2_countStepsTo_35 : decode cX2_countStepsTo 35 = .ok (.istore 8, 2) := by decide +kernel
theorem dX2_countStepsTo_37 : decode cX2_countStepsTo 37 = .ok (.iload 8, 2) := by decide +kernel
theorem dX2_countStepsTo_39 : decode cX2_countStepsTo 39 = .ok (.aload_n 1, 1) := by decide +kernel
theorem dX2_countStepsTo_40 : decode cX2_countStepsTo 40 = .ok (.getfield 30, 3) := by decide +kernel
theorem dX2_countStepsTo_43 : decode cX2_countStepsTo 43 = .ok (.if_icmp .ge 51, 3) := by decide +kernel
theorem dX2_countStepsTo_46 : decode cX2_countStepsTo 46 = .ok (.aload_n 0, 1) := by decide +kernel
theorem dX2_countStepsTo_47 : decode cX2_countStepsTo 47 = .ok (.getfield 15, 3) := by decide +kernel
theorem dX2_countStepsTo_50 : decode cX2_countStepsTo 50 = .ok (.iload 8, 2) := by decide +kernel
theorem dX2_countStepsTo_52 : decode cX2_countStepsTo 52 = .ok (.iaload, 1) := by decide +kernel
theorem dX2_countStepsTo_53 : decode cX2_countStepsTo 53 = .ok (.iconst (-1), 1) := by decide +kernel
theorem dX2_countStepsTo_54 : decode cX2_countStepsTo 54 = .ok (.if_icmp .ne 34, 3) := by decide +kernel
theorem dX2_countStepsTo_57 : decode cX2_countStepsTo 57 = .ok (.aload_n 1, 1) := by decide +kernel
theorem dX2_countStepsTo_58 : decode cX2_countStepsTo 58 = .ok (.getfield 39, 3) := by decide +kernel
theorem dX2_countStepsTo_61 : decode cX2_countStepsTo 61 = .ok (.iload 8, 2) := by decide +kernel
theorem dX2_countStepsTo_63 : decode cX2_countStepsTo 63 = .ok (.laload, 1) := by decide +kernel
theorem dX2_countStepsTo_64 : decode cX2_countStepsTo 64 = .ok (.lload 6, 2) := by decide +kernel
theorem dX2_countStepsTo_66 : decode cX2_countStepsTo 66 = .ok (.land, 1) := by decide +kernel
theorem dX2_countStepsTo_67 : decode cX2_countStepsTo 67 = .ok (.lconst 0, 1) := by decide +kernel
theorem dX2_countStepsTo_68 : decode cX2_countStepsTo 68 = .ok (.lcmp, 1) := by decide +kernel
theorem dX2_countStepsTo_69 : decode cX2_countStepsTo 69 = .ok (.ifCond .eq 19, 3) := by decide +kernel
theorem dX2_countStepsTo_72 : decode cX2_countStepsTo 72 = .ok (.aload_n 0, 1) := by decide +kernel
theorem dX2_countStepsTo_73 : decode cX2_countStepsTo 73 = .ok (.getfield 15, 3) := by decide +kernel
theorem dX2_countStepsTo_76 : decode cX2_countStepsTo 76 = .ok (.iload 8, 2) := by decide +kernel
theorem dX2_countStepsTo_78 : decode cX2_countStepsTo 78 = .ok (.iload 5, 2) := by decide +kernel
theorem dX2_countStepsTo_80 : decode cX2_countStepsTo 80 = .ok (.iastore, 1) := by decide +kernel
theorem dX2_countStepsTo_81 : decode cX2_countStepsTo 81 = .ok (.lload_n 3, 1) := by decide +kernel
theorem dX2_countStepsTo_82 : decode cX2_countStepsTo 82 = .ok (.lconst 1, 1) := by decide +kernel
theorem dX2_countStepsTo_83 : decode cX2_countStepsTo 83 = .ok (.iload 8, 2) := by decide +kernel
theorem dX2_countStepsTo_85 : decode cX2_countStepsTo 85 = .ok (.lshl, 1) := by decide +kernel
theorem dX2_countStepsTo_86 : decode cX2_countStepsTo 86 = .ok (.lor, 1) := by decide +kernel
theorem dX2_countStepsTo_87 : decode cX2_countStepsTo 87 = .ok (.lstore_n 3, 1) := by decide +kernel
theorem dX2_countStepsTo_88 : decode cX2_countStepsTo 88 = .ok (.iinc 8 1, 3) := by decide +kernel
theorem dX2_countStepsTo_91 : decode cX2_countStepsTo 91 = .ok (.goto (-54), 3) := by decide +kernel
theorem dX2_countStepsTo_94 : decode cX2_countStepsTo 94 = .ok (.iinc 5 1, 3) := by decide +kernel
theorem dX2_countStepsTo_97 : decode cX2_countStepsTo 97 = .ok (.goto (-75), 3) := by decide +kernel
theorem dX2_countStepsTo_100 : decode cX2_countStepsTo 100 = .ok (.return_, 1) := by decide +kernel
theorem dX2_nearestBelow_0 : decode cX2_nearestBelow 0 = .ok (.iconst (-1), 1) := by decide +kernel
theorem dX2_nearestBelow_1 : decode cX2_nearestBelow 1 = .ok (.istore_n 3, 1) := by decide +kernel
theorem dX2_nearestBelow_2 : decode cX2_nearestBelow 2 = .ok (.iconst 0, 1) := by decide +kernel
theorem dX2_nearestBelow_3 : decode cX2_nearestBelow 3 = .ok (.istore 4, 2) := by decide +kernel
theorem dX2_nearestBelow_5 : decode cX2_nearestBelow 5 = .ok (.iload 4, 2) := by decide +kernel
theorem dX2_nearestBelow_7 : decode cX2_nearestBelow 7 = .ok (.aload_n 1, 1) := by decide +kernel
theorem dX2_nearestBelow_8 : decode cX2_nearestBelow 8 = .ok (.getfield 30, 3) := by decide +kernel
theorem dX2_nearestBelow_11 : decode cX2_nearestBelow 11 = .ok (.if_icmp .ge 58, 3) := by decide +kernel
theorem dX2_nearestBelow_14 : decode cX2_nearestBelow 14 = .ok (.aload_n 1, 1) := by decide +kernel
theorem dX2_nearestBelow_15 : decode cX2_nearestBelow 15 = .ok (.getfield 39, 3) := by decide +kernel
theorem dX2_nearestBelow_18 : decode cX2_nearestBelow 18 = .ok (.iload_n 2, 1) := by decide +kernel
theorem dX2_nearestBelow_19 : decode cX2_nearestBelow 19 = .ok (.laload, 1) := by decide +kernel
theorem dX2_nearestBelow_20 : decode cX2_nearestBelow 20 = .ok (.iload 4, 2) := by decide +kernel
theorem dX2_nearestBelow_22 : decode cX2_nearestBelow 22 = .ok (.invokestatic 35, 3) := by decide +kernel
theorem dX2_nearestBelow_25 : decode cX2_nearestBelow 25 = .ok (.ifCond .eq 38, 3) := by decide +kernel
theorem dX2_nearestBelow_28 : decode cX2_nearestBelow 28 = .ok (.aload_n 0, 1) := by decide +kernel
theorem dX2_nearestBelow_29 : decode cX2_nearestBelow 29 = .ok (.getfield 15, 3) := by decide +kernel
theorem dX2_nearestBelow_32 : decode cX2_nearestBelow 32 = .ok (.iload 4, 2) := by decide +kernel
theorem dX2_nearestBelow_34 : decode cX2_nearestBelow 34 = .ok (.iaload, 1) := by decide +kernel
theorem dX2_nearestBelow_35 : decode cX2_nearestBelow 35 = .ok (.iconst (-1), 1) := by decide +kernel
theorem dX2_nearestBelow_36 : decode cX2_nearestBelow 36 = .ok (.if_icmp .eq 27, 3) := by decide +kernel
theorem dX2_nearestBelow_39 : decode cX2_nearestBelow 39 = .ok (.iload_n 3, 1) := by decide +kernel
theorem dX2_nearestBelow_40 : decode cX2_nearestBelow 40 = .ok (.iconst (-1), 1) := by decide +kernel
theorem dX2_nearestBelow_41 : decode cX2_nearestBelow 41 = .ok (.if_icmp .eq 19, 3) := by decide +kernel
theorem dX2_nearestBelow_44 : decode cX2_nearestBelow 44 = .ok (.aload_n 0, 1) := by decide +kernel
theorem dX2_nearestBelow_45 : decode cX2_nearestBelow 45 = .ok (.getfield 15, 3) := by decide +kernel
theorem dX2_nearestBelow_48 : decode cX2_nearestBelow 48 = .ok (.iload 4, 2) := by decide +kernel
theorem dX2_nearestBelow_50 : decode cX2_nearestBelow 50 = .ok (.iaload, 1) := by decide +kernel
theorem dX2_nearestBelow_51 : decode cX2_nearestBelow 51 = .ok (.aload_n 0, 1) := by decide +kernel
theorem dX2_nearestBelow_52 : decode cX2_nearestBelow 52 = .ok (.getfield 15, 3) := by decide +kernel
theorem dX2_nearestBelow_55 : decode cX2_nearestBelow 55 = .ok (.iload_n 3, 1) := by decide +kernel
theorem dX2_nearestBelow_56 : decode cX2_nearestBelow 56 = .ok (.iaload, 1) := by decide +kernel
theorem dX2_nearestBelow_57 : decode cX2_nearestBelow 57 = .ok (.if_icmp .ge 6, 3) := by decide +kernel
theorem dX2_nearestBelow_60 : decode cX2_nearestBelow 60 = .ok (.iload 4, 2) := by decide +kernel
theorem dX2_nearestBelow_62 : decode cX2_nearestBelow 62 = .ok (.istore_n 3, 1) := by decide +kernel
theorem dX2_nearestBelow_63 : decode cX2_nearestBelow 63 = .ok (.iinc 4 1, 3) := by decide +kernel
theorem dX2_nearestBelow_66 : decode cX2_nearestBelow 66 = .ok (.goto (-61), 3) := by decide +kernel
theorem dX2_nearestBelow_69 : decode cX2_nearestBelow 69 = .ok (.iload_n 3, 1) := by decide +kernel
theorem dX2_nearestBelow_70 : decode cX2_nearestBelow 70 = .ok (.ireturn, 1) := by decide +kernel
theorem dX3_init_0 : decode cX3_init 0 = .ok (.aload_n 0, 1) := by decide +kernel
theorem dX3_init_1 : decode cX3_init 1 = .ok (.invokespecial 3, 3) := by decide +kernel
theorem dX3_init_4 : decode cX3_init 4 = .ok (.aload_n 0, 1) := by decide +kernel
theorem dX3_init_5 : decode cX3_init 5 = .ok (.new 9, 3) := by decide +kernel
theorem dX3_init_8 : decode cX3_init 8 = .ok (.dup, 1) := by decide +kernel
theorem dX3_init_9 : decode cX3_init 9 = .ok (.invokespecial 11, 3) := by decide +kernel
theorem dX3_init_12 : decode cX3_init 12 = .ok (.putfield 12, 3) := by decide +kernel
theorem dX3_init_15 : decode cX3_init 15 = .ok (.aload_n 0, 1) := by decide +kernel
theorem dX3_init_16 : decode cX3_init 16 = .ok (.new 16, 3) := by decide +kernel
theorem dX3_init_19 : decode cX3_init 19 = .ok (.dup, 1) := by decide +kernel
theorem dX3_init_20 : decode cX3_init 20 = .ok (.invokespecial 18, 3) := by decide +kernel
theorem dX3_init_23 : decode cX3_init 23 = .ok (.putfield 19, 3) := by decide +kernel
theorem dX3_init_26 : decode cX3_init 26 = .ok (.aload_n 0, 1) := by decide +kernel
theorem dX3_init_27 : decode cX3_init 27 = .ok (.new 23, 3) := by decide +kernel
theorem dX3_init_30 : decode cX3_init 30 = .ok (.dup, 1) := by decide +kernel
theorem dX3_init_31 : decode cX3_init 31 = .ok (.invokespecial 25, 3) := by decide +kernel
theorem dX3_init_34 : decode cX3_init 34 = .ok (.putfield 26, 3) := by decide +kernel
theorem dX3_init_37 : decode cX3_init 37 = .ok (.aload_n 0, 1) := by decide +kernel
theorem dX3_init_38 : decode cX3_init 38 = .ok (.new 23, 3) := by decide +kernel
theorem dX3_init_41 : decode cX3_init 41 = .ok (.dup, 1) := by decide +kernel
theorem dX3_init_42 : decode cX3_init 42 = .ok (.invokespecial 25, 3) := by decide +kernel
theorem dX3_init_45 : decode cX3_init 45 = .ok (.putfield 30, 3) := by decide +kernel
theorem dX3_init_48 : decode cX3_init 48 = .ok (.aload_n 0, 1) := by decide +kernel
theorem dX3_init_49 : decode cX3_init 49 = .ok (.iconst 0, 1) := by decide +kernel
theorem dX3_init_50 : decode cX3_init 50 = .ok (.putfield 33, 3) := by decide +kernel
theorem dX3_init_53 : decode cX3_init 53 = .ok (.aload_n 0, 1) := by decide +kernel
theorem dX3_init_54 : decode cX3_init 54 = .ok (.iconst 0, 1) := by decide +kernel
theorem dX3_init_55 : decode cX3_init 55 = .ok (.putfield 37, 3) := by decide +kernel
theorem dX3_init_58 : decode cX3_init 58 = .ok (.aload_n 0, 1) := by decide +kernel
theorem dX3_init_59 : decode cX3_init 59 = .ok (.iconst 0, 1) := by decide +kernel
theorem dX3_init_60 : decode cX3_init 60 = .ok (.putfield 41, 3) := by decide +kernel
theorem dX3_init_63 : decode cX3_init 63 = .ok (.return_, 1) := by decide +kernel
theorem dX3_pin_0 : decode cX3_pin 0 = .ok (.iload_n 1, 1) := by decide +kernel
theorem dX3_pin_1 : decode cX3_pin 1 = .ok (.invokestatic 44, 3) := by decide +kernel
theorem dX3_pin_4 : decode cX3_pin 4 = .ok (.ifCond .ne 13, 3) := by decide +kernel
theorem dX3_pin_7 : decode cX3_pin 7 = .ok (.new 48, 3) := by decide +kernel
theorem dX3_pin_10 : decode cX3_pin 10 = .ok (.dup, 1) := by decide +kernel
theorem dX3_pin_11 : decode cX3_pin 11 = .ok (.ldc 50, 2) := by decide +kernel
theorem dX3_pin_13 : decode cX3_pin 13 = .ok (.invokespecial 52, 3) := by decide +kernel
theorem dX3_pin_16 : decode cX3_pin 16 = .ok (.athrow, 1) := by decide +kernel
theorem dX3_pin_17 : decode cX3_pin 17 = .ok (.iload_n 3, 1) := by decide +kernel
theorem dX3_pin_18 : decode cX3_pin 18 = .ok (.ifCond .eq 20, 3) := by decide +kernel
theorem dX3_pin_21 : decode cX3_pin 21 = .ok (.iload_n 3, 1) := by decide +kernel
theorem dX3_pin_22 : decode cX3_pin 22 = .ok (.invokestatic 55, 3) := by decide +kernel
theorem dX3_pin_25 : decode cX3_pin 25 = .ok (.ifCond .ne 13, 3) := by decide +kernel
theorem dX3_pin_28 : decode cX3_pin 28 = .ok (.new 58, 3) := by decide +kernel
theorem dX3_pin_31 : decode cX3_pin 31 = .ok (.dup, 1) := by decide +kernel
theorem dX3_pin_32 : decode cX3_pin 32 = .ok (.ldc 60, 2) := by decide +kernel
theorem dX3_pin_34 : decode cX3_pin 34 = .ok (.invokespecial 62, 3) := by decide +kernel
theorem dX3_pin_37 : decode cX3_pin 37 = .ok (.athrow, 1) := by decide +kernel
theorem dX3_pin_38 : decode cX3_pin 38 = .ok (.aload_n 0, 1) := by decide +kernel
theorem dX3_pin_39 : decode cX3_pin 39 = .ok (.getfield 26, 3) := by decide +kernel
theorem dX3_pin_42 : decode cX3_pin 42 = .ok (.invokevirtual 63, 3) := by decide +kernel
theorem dX3_pin_45 : decode cX3_pin 45 = .ok (.aload_n 0, 1) := by decide +kernel
theorem dX3_pin_46 : decode cX3_pin 46 = .ok (.iconst 0, 1) := by decide +kernel
theorem dX3_pin_47 : decode cX3_pin 47 = .ok (.putfield 33, 3) := by decide +kernel
theorem dX3_pin_50 : decode cX3_pin 50 = .ok (.aload_n 0, 1) := by decide +kernel
theorem dX3_pin_51 : decode cX3_pin 51 = .ok (.getfield 12, 3) := by decide +kernel
theorem dX3_pin_54 : decode cX3_pin 54 = .ok (.iload_n 1, 1) := by decide +kernel
theorem dX3_pin_55 : decode cX3_pin 55 = .ok (.iload_n 2, 1) := by decide +kernel
theorem dX3_pin_56 : decode cX3_pin 56 = .ok (.iload_n 3, 1) := by decide +kernel
theorem dX3_pin_57 : decode cX3_pin 57 = .ok (.invokevirtual 66, 3) := by decide +kernel
theorem dX3_pin_60 : decode cX3_pin 60 = .ok (.ireturn, 1) := by decide +kernel
theorem dX3_lay_0 : decode cX3_lay 0 = .ok (.aload_n 0, 1) := by decide +kernel
theorem dX3_lay_1 : decode cX3_lay 1 = .ok (.getfield 12, 3) := by decide +kernel
theorem dX3_lay_4 : decode cX3_lay 4 = .ok (.invokevirtual 70, 3) := by decide +kernel
theorem dX3_lay_7 : decode cX3_lay 7 = .ok (.ifCond .eq 13, 3) := by decide +kernel
theorem dX3_lay_10 : decode cX3_lay 10 = .ok (.new 58, 3) := by decide +kernel
theorem dX3_lay_13 : decode cX3_lay 13 = .ok (.dup, 1) := by decide +kernel
theorem dX3_lay_14 : decode cX3_lay 14 = .ok (.ldc 74, 2) := by decide +kernel
theorem dX3_lay_16 : decode cX3_lay 16 = .ok (.invokespecial 62, 3) := by decide +kernel
theorem dX3_lay_19 : decode cX3_lay 19 = .ok (.athrow, 1) := by decide +kernel
theorem dX3_lay_20 : decode cX3_lay 20 = .ok (.aload_n 0, 1) := by decide +kernel
theorem dX3_lay_21 : decode cX3_lay 21 = .ok (.iload_n 1, 1) := by decide +kernel
theorem dX3_lay_22 : decode cX3_lay 22 = .ok (.invokevirtual 76, 3) := by decide +kernel
theorem dX3_lay_25 : decode cX3_lay 25 = .ok (.ifCond .eq 17, 3) := by decide +kernel
theorem dX3_lay_28 : decode cX3_lay 28 = .ok (.aload_n 0, 1) := by decide +kernel
theorem dX3_lay_29 : decode cX3_lay 29 = .ok (.invokevirtual 80, 3) := by decide +kernel
theorem dX3_lay_32 : decode cX3_lay 32 = .ok (.new 83, 3) := by decide +kernel
theorem dX3_lay_35 : decode cX3_lay 35 = .ok (.dup, 1) := by decide +kernel
theorem dX3_lay_36 : decode cX3_lay 36 = .ok (.ldc 85, 2) := by decide +kernel
theorem dX3_lay_38 : decode cX3_lay 38 = .ok (.invokespecial 87, 3) := by decide +kernel
theorem dX3_lay_41 : decode cX3_lay 41 = .ok (.athrow, 1) := by decide +kernel
theorem dX3_lay_42 : decode cX3_lay 42 = .ok (.aload_n 0, 1) := by decide +kernel
theorem dX3_lay_43 : decode cX3_lay 43 = .ok (.invokevirtual 88, 3) := by decide +kernel
theorem dX3_lay_46 : decode cX3_lay 46 = .ok (.aload_n 0, 1) := by decide +kernel
theorem dX3_lay_47 : decode cX3_lay 47 = .ok (.getfield 26, 3) := by decide +kernel
theorem dX3_lay_50 : decode cX3_lay 50 = .ok (.getfield 91, 3) := by decide +kernel
theorem dX3_lay_53 : decode cX3_lay 53 = .ok (.ireturn, 1) := by decide +kernel
theorem dX3_layAny_0 : decode cX3_layAny 0 = .ok (.aload_n 0, 1) := by decide +kernel
theorem dX3_layAny_1 : decode cX3_layAny 1 = .ok (.getfield 12, 3) := by decide +kernel
theorem dX3_layAny_4 : decode cX3_layAny 4 = .ok (.invokevirtual 70, 3) := by decide +kernel
theorem dX3_layAny_7 : decode cX3_layAny 7 = .ok (.ifCond .eq 13, 3) := by decide +kernel
theorem dX3_layAny_10 : decode cX3_layAny 10 = .ok (.new 58, 3) := by decide +kernel
theorem dX3_layAny_13 : decode cX3_layAny 13 = .ok (.dup, 1) := by decide +kernel
theorem dX3_layAny_14 : decode cX3_layAny 14 = .ok (.ldc 74, 2) := by decide +kernel
theorem dX3_layAny_16 : decode cX3_layAny 16 = .ok (.invokespecial 62, 3) := by decide +kernel
theorem dX3_layAny_19 : decode cX3_layAny 19 = .ok (.athrow, 1) := by decide +kernel
theorem dX3_layAny_20 : decode cX3_layAny 20 = .ok (.aload_n 0, 1) := by decide +kernel
theorem dX3_layAny_21 : decode cX3_layAny 21 = .ok (.iconst 0, 1) := by decide +kernel
theorem dX3_layAny_22 : decode cX3_layAny 22 = .ok (.invokevirtual 76, 3) := by decide +kernel
theorem dX3_layAny_25 : decode cX3_layAny 25 = .ok (.istore_n 1, 1) := by decide +kernel
theorem dX3_layAny_26 : decode cX3_layAny 26 = .ok (.iload_n 1, 1) := by decide +kernel
theorem dX3_layAny_27 : decode cX3_layAny 27 = .ok (.ifCond .eq 25, 3) := by decide +kernel
theorem dX3_layAny_30 : decode cX3_layAny 30 = .ok (.aload_n 0, 1) := by decide +kernel
theorem dX3_layAny_31 : decode cX3_layAny 31 = .ok (.iconst 1, 1) := by decide +kernel
theorem dX3_layAny_32 : decode cX3_layAny 32 = .ok (.invokevirtual 76, 3) := by decide +kernel
theorem dX3_layAny_35 : decode cX3_layAny 35 = .ok (.ifCond .eq 17, 3) := by decide +kernel
theorem dX3_layAny_38 : decode cX3_layAny 38 = .ok (.aload_n 0, 1) := by decide +kernel
theorem dX3_layAny_39 : decode cX3_layAny 39 = .ok (.invokevirtual 80, 3) := by decide +kernel
theorem dX3_layAny_42 : decode cX3_layAny 42 = .ok (.new 83, 3) := by decide +kernel
theorem dX3_layAny_45 : decode cX3_layAny 45 = .ok (.dup, 1) := by decide +kernel
theorem dX3_layAny_46 : decode cX3_layAny 46 = .ok (.ldc 94, 2) := by decide +kernel
theorem dX3_layAny_48 : decode cX3_layAny 48 = .ok (.invokespecial 87, 3) := by decide +kernel
theorem dX3_layAny_51 : decode cX3_layAny 51 = .ok (.athrow, 1) := by decide +kernel
theorem dX3_layAny_52 : decode cX3_layAny 52 = .ok (.aload_n 0, 1) := by decide +kernel
theorem dX3_layAny_53 : decode cX3_layAny 53 = .ok (.invokevirtual 88, 3) := by decide +kernel
theorem dX3_layAny_56 : decode cX3_layAny 56 = .ok (.iload_n 1, 1) := by decide +kernel
theorem dX3_layAny_57 : decode cX3_layAny 57 = .ok (.ifCond .eq 17, 3) := by decide +kernel
theorem dX3_layAny_60 : decode cX3_layAny 60 = .ok (.sipush 1000, 3) := by decide +kernel
theorem dX3_layAny_63 : decode cX3_layAny 63 = .ok (.aload_n 0, 1) := by decide +kernel
theorem dX3_layAny_64 : decode cX3_layAny 64 = .ok (.getfield 26, 3) := by decide +kernel
theorem dX3_layAny_67 : decode cX3_layAny 67 = .ok (.getfield 91, 3) := by decide +kernel
theorem dX3_layAny_70 : decode cX3_layAny 70 = .ok (.iadd, 1) := by decide +kernel
theorem dX3_layAny_71 : decode cX3_layAny 71 = .ok (.goto 10, 3) := by decide +kernel
theorem dX3_layAny_74 : decode cX3_layAny 74 = .ok (.aload_n 0, 1) := by decide +kernel
theorem dX3_layAny_75 : decode cX3_layAny 75 = .ok (.getfield 26, 3) := by decide +kernel
theorem dX3_layAny_78 : decode cX3_layAny 78 = .ok (.getfield 91, 3) := by decide +kernel
theorem dX3_layAny_81 : decode cX3_layAny 81 = .ok (.ireturn, 1) := by decide +kernel
theorem dX3_ring_0 : decode cX3_ring 0 = .ok (.aload_n 0, 1) := by decide +kernel
theorem dX3_ring_1 : decode cX3_ring 1 = .ok (.getfield 19, 3) := by decide +kernel
theorem dX3_ring_4 : decode cX3_ring 4 = .ok (.iload_n 1, 1) := by decide +kernel
theorem dX3_ring_5 : decode cX3_ring 5 = .ok (.invokevirtual 96, 3) := by decide +kernel
theorem dX3_ring_8 : decode cX3_ring 8 = .ok (.ireturn, 1) := by decide +kernel
theorem dX3_segment_0 : decode cX3_segment 0 = .ok (.iload_n 1, 1) := by decide +kernel
theorem dX3_segment_1 : decode cX3_segment 1 = .ok (.ifCond .lt 14, 3) := by decide +kernel
theorem dX3_segment_4 : decode cX3_segment 4 = .ok (.iload_n 1, 1) := by decide +kernel
theorem dX3_segment_5 : decode cX3_segment 5 = .ok (.aload_n 0, 1) := by decide +kernel
theorem dX3_segment_6 : decode cX3_segment 6 = .ok (.getfield 26, 3) := by decide +kernel
theorem dX3_segment_9 : decode cX3_segment 9 = .ok (.getfield 100, 3) := by decide +kernel
theorem dX3_segment_12 : decode cX3_segment 12 = .ok (.if_icmp .lt 13, 3) := by decide +kernel
theorem dX3_segment_15 : decode cX3_segment 15 = .ok (.new 48, 3) := by decide +kernel
theorem dX3_segment_18 : decode cX3_segment 18 = .ok (.dup, 1) := by decide +kernel
theorem dX3_segment_19 : decode cX3_segment 19 = .ok (.ldc 103, 2) := by decide +kernel
theorem dX3_segment_21 : decode cX3_segment 21 = .ok (.invokespecial 52, 3) := by decide +kernel
theorem dX3_segment_24 : decode cX3_segment 24 = .ok (.athrow, 1) := by decide +kernel
theorem dX3_segment_25 : decode cX3_segment 25 = .ok (.iload_n 2, 1) := by decide +kernel
theorem dX3_segment_26 : decode cX3_segment 26 = .ok (.tableswitch 70 0 3 #[30, 40, 50, 60], 30) := by decide +kernel
theorem dX3_segment_56 : decode cX3_segment 56 = .ok (.aload_n 0, 1) := by decide +kernel
theorem dX3_segment_57 : decode cX3_segment 57 = .ok (.getfield 26, 3) := by decide +kernel
theorem dX3_segment_60 : decode cX3_segment 60 = .ok (.getfield 105, 3) := by decide +kernel
theorem dX3_segment_63 : decode cX3_segment 63 = .ok (.iload_n 1, 1) := by decide +kernel
theorem dX3_segment_64 : decode cX3_segment 64 = .ok (.iaload, 1) := by decide +kernel
theorem dX3_segment_65 : decode cX3_segment 65 = .ok (.ireturn, 1) := by decide +kernel
theorem dX3_segment_66 : decode cX3_segment 66 = .ok (.aload_n 0, 1) := by decide +kernel
theorem dX3_segment_67 : decode cX3_segment 67 = .ok (.getfield 26, 3) := by decide +kernel
theorem dX3_segment_70 : decode cX3_segment 70 = .ok (.getfield 109, 3) := by decide +kernel
theorem dX3_segment_73 : decode cX3_segment 73 = .ok (.iload_n 1, 1) := by decide +kernel
theorem dX3_segment_74 : decode cX3_segment 74 = .ok (.iaload, 1) := by decide +kernel
theorem dX3_segment_75 : decode cX3_segment 75 = .ok (.ireturn, 1) := by decide +kernel
theorem dX3_segment_76 : decode cX3_segment 76 = .ok (.aload_n 0, 1) := by decide +kernel
theorem dX3_segment_77 : decode cX3_segment 77 = .ok (.getfield 26, 3) := by decide +kernel
theorem dX3_segment_80 : decode cX3_segment 80 = .ok (.getfield 112, 3) := by decide +kernel
theorem dX3_segment_83 : decode cX3_segment 83 = .ok (.iload_n 1, 1) := by decide +kernel
theorem dX3_segment_84 : decode cX3_segment 84 = .ok (.iaload, 1) := by decide +kernel
theorem dX3_segment_85 : decode cX3_segment 85 = .ok (.ireturn, 1) := by decide +kernel
theorem dX3_segment_86 : decode cX3_segment 86 = .ok (.aload_n 0, 1) := by decide +kernel
theorem dX3_segment_87 : decode cX3_segment 87 = .ok (.getfield 26, 3) := by decide +kernel
theorem dX3_segment_90 : decode cX3_segment 90 = .ok (.getfield 115, 3) := by decide +kernel
theorem dX3_segment_93 : decode cX3_segment 93 = .ok (.iload_n 1, 1) := by decide +kernel
theorem dX3_segment_94 : decode cX3_segment 94 = .ok (.iaload, 1) := by decide +kernel
theorem dX3_segment_95 : decode cX3_segment 95 = .ok (.ireturn, 1) := by decide +kernel
theorem dX3_segment_96 : decode cX3_segment 96 = .ok (.new 48, 3) := by decide +kernel
theorem dX3_segment_99 : decode cX3_segment 99 = .ok (.dup, 1) := by decide +kernel
theorem dX3_segment_100 : decode cX3_segment 100 = .ok (.ldc 118, 2) := by decide +kernel
theorem dX3_segment_102 : decode cX3_segment 102 = .ok (.invokespecial 52, 3) := by decide +kernel
theorem dX3_segment_105 : decode cX3_segment 105 = .ok (.athrow, 1) := by decide +kernel
theorem dX3_level_0 : decode cX3_level 0 = .ok (.aload_n 0, 1) := by decide +kernel
theorem dX3_level_1 : decode cX3_level 1 = .ok (.iload_n 1, 1) := by decide +kernel
theorem dX3_level_2 : decode cX3_level 2 = .ok (.invokevirtual 120, 3) := by decide +kernel
theorem dX3_level_5 : decode cX3_level 5 = .ok (.ifCond .eq 10, 3) := by decide +kernel
theorem dX3_level_8 : decode cX3_level 8 = .ok (.iload_n 2, 1) := by decide +kernel
theorem dX3_level_9 : decode cX3_level 9 = .ok (.invokestatic 44, 3) := by decide +kernel
theorem dX3_level_12 : decode cX3_level 12 = .ok (.ifCond .ne 13, 3) := by decide +kernel
theorem dX3_level_15 : decode cX3_level 15 = .ok (.new 48, 3) := by decide +kernel
theorem dX3_level_18 : decode cX3_level 18 = .ok (.dup, 1) := by decide +kernel
theorem dX3_level_19 : decode cX3_level 19 = .ok (.ldc 123, 2) := by decide +kernel
theorem dX3_level_21 : decode cX3_level 21 = .ok (.invokespecial 52, 3) := by decide +kernel
theorem dX3_level_24 : decode cX3_level 24 = .ok (.athrow, 1) := by decide +kernel
theorem dX3_level_25 : decode cX3_level 25 = .ok (.aload_n 0, 1) := by decide +kernel
theorem dX3_level_26 : decode cX3_level 26 = .ok (.getfield 26, 3) := by decide +kernel
theorem dX3_level_29 : decode cX3_level 29 = .ok (.iload_n 1, 1) := by decide +kernel
theorem dX3_level_30 : decode cX3_level 30 = .ok (.iload_n 2, 1) := by decide +kernel
theorem dX3_level_31 : decode cX3_level 31 = .ok (.invokevirtual 125, 3) := by decide +kernel
theorem dX3_level_34 : decode cX3_level 34 = .ok (.ireturn, 1) := by decide +kernel
theorem dX3_upright_0 : decode cX3_upright 0 = .ok (.aload_n 0, 1) := by decide +kernel
theorem dX3_upright_1 : decode cX3_upright 1 = .ok (.getfield 33, 3) := by decide +kernel
theorem dX3_upright_4 : decode cX3_upright 4 = .ok (.ifCond .eq 26, 3) := by decide +kernel
theorem dX3_upright_7 : decode cX3_upright 7 = .ok (.iload_n 1, 1) := by decide +kernel
theorem dX3_upright_8 : decode cX3_upright 8 = .ok (.invokestatic 44, 3) := by decide +kernel
theorem dX3_upright_11 : decode cX3_upright 11 = .ok (.ifCond .eq 19, 3) := by decide +kernel
theorem dX3_upright_14 : decode cX3_upright 14 = .ok (.iload_n 2, 1) := by decide +kernel
theorem dX3_upright_15 : decode cX3_upright 15 = .ok (.iconst (-1), 1) := by decide +kernel
theorem dX3_upright_16 : decode cX3_upright 16 = .ok (.if_icmp .lt 14, 3) := by decide +kernel
theorem dX3_upright_19 : decode cX3_upright 19 = .ok (.iload_n 2, 1) := by decide +kernel
theorem dX3_upright_20 : decode cX3_upright 20 = .ok (.aload_n 0, 1) := by decide +kernel
theorem dX3_upright_21 : decode cX3_upright 21 = .ok (.getfield 26, 3) := by decide +kernel
theorem dX3_upright_24 : decode cX3_upright 24 = .ok (.getfield 91, 3) := by decide +kernel
theorem dX3_upright_27 : decode cX3_upright 27 = .ok (.if_icmp .le 13, 3) := by decide +kernel
theorem dX3_upright_30 : decode cX3_upright 30 = .ok (.new 48, 3) := by decide +kernel
theorem dX3_upright_33 : decode cX3_upright 33 = .ok (.dup, 1) := by decide +kernel
theorem dX3_upright_34 : decode cX3_upright 34 = .ok (.ldc 129, 2) := by decide +kernel
theorem dX3_upright_36 : decode cX3_upright 36 = .ok (.invokespecial 52, 3) := by decide +kernel
theorem dX3_upright_39 : decode cX3_upright 39 = .ok (.athrow, 1) := by decide +kernel
theorem dX3_upright_40 : decode cX3_upright 40 = .ok (.aload_n 0, 1) := by decide +kernel
theorem dX3_upright_41 : decode cX3_upright 41 = .ok (.iload_n 1, 1) := by decide +kernel
theorem dX3_upright_42 : decode cX3_upright 42 = .ok (.iload_n 2, 1) := by decide +kernel
theorem dX3_upright_43 : decode cX3_upright 43 = .ok (.invokevirtual 131, 3) := by decide +kernel
theorem dX3_upright_46 : decode cX3_upright 46 = .ok (.ireturn, 1) := by decide +kernel
theorem dX3_via_0 : decode cX3_via 0 = .ok (.aload_n 0, 1) := by decide +kernel
theorem dX3_via_1 : decode cX3_via 1 = .ok (.iload_n 1, 1) := by decide +kernel
theorem dX3_via_2 : decode cX3_via 2 = .ok (.invokevirtual 120, 3) := by decide +kernel
theorem dX3_via_5 : decode cX3_via 5 = .ok (.ifCond .eq 10, 3) := by decide +kernel
theorem dX3_via_8 : decode cX3_via 8 = .ok (.iload_n 2, 1) := by decide +kernel
theorem dX3_via_9 : decode cX3_via 9 = .ok (.invokestatic 44, 3) := by decide +kernel
theorem dX3_via_12 : decode cX3_via 12 = .ok (.ifCond .ne 13, 3) := by decide +kernel
theorem dX3_via_15 : decode cX3_via 15 = .ok (.new 48, 3) := by decide +kernel
theorem dX3_via_18 : decode cX3_via 18 = .ok (.dup, 1) := by decide +kernel
theorem dX3_via_19 : decode cX3_via 19 = .ok (.ldc 123, 2) := by decide +kernel
theorem dX3_via_21 : decode cX3_via 21 = .ok (.invokespecial 52, 3) := by decide +kernel
theorem dX3_via_24 : decode cX3_via 24 = .ok (.athrow, 1) := by decide +kernel
theorem dX3_via_25 : decode cX3_via 25 = .ok (.aload_n 0, 1) := by decide +kernel
theorem dX3_via_26 : decode cX3_via 26 = .ok (.iload_n 1, 1) := by decide +kernel
theorem dX3_via_27 : decode cX3_via 27 = .ok (.iload_n 2, 1) := by decide +kernel
theorem dX3_via_28 : decode cX3_via 28 = .ok (.invokevirtual 134, 3) := by decide +kernel
theorem dX3_via_31 : decode cX3_via 31 = .ok (.ireturn, 1) := by decide +kernel
theorem dX3_density_0 : decode cX3_density 0 = .ok (.iconst 0, 1) := by decide +kernel
theorem dX3_density_1 : decode cX3_density 1 = .ok (.istore_n 1, 1) := by decide +kernel
theorem dX3_density_2 : decode cX3_density 2 = .ok (.iconst 0, 1) := by decide +kernel
theorem dX3_density_3 : decode cX3_density 3 = .ok (.istore_n 2, 1) := by decide +kernel
theorem dX3_density_4 : decode cX3_density 4 = .ok (.iload_n 2, 1) := by decide +kernel
theorem dX3_density_5 : decode cX3_density 5 = .ok (.bipush 20, 2) := by decide +kernel
theorem dX3_density_7 : decode cX3_density 7 = .ok (.if_icmp .ge 22, 3) := by decide +kernel
theorem dX3_density_10 : decode cX3_density 10 = .ok (.iload_n 1, 1) := by decide +kernel
theorem dX3_density_11 : decode cX3_density 11 = .ok (.aload_n 0, 1) := by decide +kernel
theorem dX3_density_12 : decode cX3_density 12 = .ok (.getfield 12, 3) := by decide +kernel
theorem dX3_density_15 : decode cX3_density 15 = .ok (.iload_n 2, 1) := by decide +kernel
theorem dX3_density_16 : decode cX3_density 16 = .ok (.invokevirtual 138, 3) := by decide +kernel
theorem dX3_density_19 : decode cX3_density 19 = .ok (.invokestatic 141, 3) := by decide +kernel
theorem dX3_density_22 : decode cX3_density 22 = .ok (.istore_n 1, 1) := by decide +kernel
theorem dX3_density_23 : decode cX3_density 23 = .ok (.iinc 2 1, 3) := by decide +kernel
theorem dX3_density_26 : decode cX3_density 26 = .ok (.goto (-22), 3) := by decide +kernel
theorem dX3_density_29 : decode cX3_density 29 = .ok (.iload_n 1, 1) := by decide +kernel
theorem dX3_density_30 : decode cX3_density 30 = .ok (.ireturn, 1) := by decide +kernel
theorem dX3_pairs_0 : decode cX3_pairs 0 = .ok (.aload_n 0, 1) := by decide +kernel
theorem dX3_pairs_1 : decode cX3_pairs 1 = .ok (.getfield 30, 3) := by decide +kernel
theorem dX3_pairs_4 : decode cX3_pairs 4 = .ok (.aload_n 0, 1) := by decide +kernel
theorem dX3_pairs_5 : decode cX3_pairs 5 = .ok (.getfield 12, 3) := by decide +kernel
theorem dX3_pairs_8 : decode cX3_pairs 8 = .ok (.iload_n 1, 1) := by decide +kernel
theorem dX3_pairs_9 : decode cX3_pairs 9 = .ok (.invokevirtual 146, 3) := by decide +kernel
theorem dX3_pairs_12 : decode cX3_pairs 12 = .ok (.aload_n 0, 1) := by decide +kernel
theorem dX3_pairs_13 : decode cX3_pairs 13 = .ok (.getfield 30, 3) := by decide +kernel
theorem dX3_pairs_16 : decode cX3_pairs 16 = .ok (.invokevirtual 150, 3) := by decide +kernel
theorem dX3_pairs_19 : decode cX3_pairs 19 = .ok (.ireturn, 1) := by decide +kernel
theorem dX3_net_0 : decode cX3_net 0 = .ok (.iload_n 1, 1) := by decide +kernel
theorem dX3_net_1 : decode cX3_net 1 = .ok (.invokestatic 55, 3) := by decide +kernel
theorem dX3_net_4 : decode cX3_net 4 = .ok (.ifCond .ne 13, 3) := by decide +kernel
theorem dX3_net_7 : decode cX3_net 7 = .ok (.new 48, 3) := by decide +kernel
theorem dX3_net_10 : decode cX3_net 10 = .ok (.dup, 1) := by decide +kernel
theorem dX3_net_11 : decode cX3_net 11 = .ok (.ldc 60, 2) := by decide +kernel
theorem dX3_net_13 : decode cX3_net 13 = .ok (.invokespecial 52, 3) := by decide +kernel
theorem dX3_net_16 : decode cX3_net 16 = .ok (.athrow, 1) := by decide +kernel
theorem dX3_net_17 : decode cX3_net 17 = .ok (.iload_n 2, 1) := by decide +kernel
theorem dX3_net_18 : decode cX3_net 18 = .ok (.tableswitch 96 0 3 #[30, 54, 78, 87], 30) := by decide +kernel
theorem dX3_net_48 : decode cX3_net 48 = .ok (.aload_n 0, 1) := by decide +kernel
theorem dX3_net_49 : decode cX3_net 49 = .ok (.getfield 12, 3) := by decide +kernel
theorem dX3_net_52 : decode cX3_net 52 = .ok (.iload_n 1, 1) := by decide +kernel
theorem dX3_net_53 : decode cX3_net 53 = .ok (.invokevirtual 154, 3) := by decide +kernel
theorem dX3_net_56 : decode cX3_net 56 = .ok (.ifCond .eq 14, 3) := by decide +kernel
theorem dX3_net_59 : decode cX3_net 59 = .ok (.aload_n 0, 1) := by decide +kernel
theorem dX3_net_60 : decode cX3_net 60 = .ok (.getfield 12, 3) := by decide +kernel
theorem dX3_net_63 : decode cX3_net 63 = .ok (.iload_n 1, 1) := by decide +kernel
theorem dX3_net_64 : decode cX3_net 64 = .ok (.invokevirtual 157, 3) := by decide +kernel
theorem dX3_net_67 : decode cX3_net 67 = .ok (.goto 4, 3) := by decide +kernel
theorem dX3_net_70 : decode cX3_net 70 = .ok (.iconst (-1), 1) := by decide +kernel
theorem dX3_net_71 : decode cX3_net 71 = .ok (.ireturn, 1) := by decide +kernel
theorem dX3_net_72 : decode cX3_net 72 = .ok (.aload_n 0, 1) := by decide +kernel
theorem dX3_net_73 : decode cX3_net 73 = .ok (.getfield 12, 3) := by decide +kernel
theorem dX3_net_76 : decode cX3_net 76 = .ok (.iload_n 1, 1) := by decide +kernel
theorem dX3_net_77 : decode cX3_net 77 = .ok (.invokevirtual 154, 3) := by decide +kernel
theorem dX3_net_80 : decode cX3_net 80 = .ok (.ifCond .eq 14, 3) := by decide +kernel
theorem dX3_net_83 : decode cX3_net 83 = .ok (.aload_n 0, 1) := by decide +kernel
theorem dX3_net_84 : decode cX3_net 84 = .ok (.getfield 12, 3) := by decide +kernel
theorem dX3_net_87 : decode cX3_net 87 = .ok (.iload_n 1, 1) := by decide +kernel
theorem dX3_net_88 : decode cX3_net 88 = .ok (.invokevirtual 160, 3) := by decide +kernel
theorem dX3_net_91 : decode cX3_net 91 = .ok (.goto 4, 3) := by decide +kernel
theorem dX3_net_94 : decode cX3_net 94 = .ok (.iconst (-1), 1) := by decide +kernel
theorem dX3_net_95 : decode cX3_net 95 = .ok (.ireturn, 1) := by decide +kernel
theorem dX3_net_96 : decode cX3_net 96 = .ok (.aload_n 0, 1) := by decide +kernel
theorem dX3_net_97 : decode cX3_net 97 = .ok (.getfield 12, 3) := by decide +kernel
theorem dX3_net_100 : decode cX3_net 100 = .ok (.iload_n 1, 1) := by decide +kernel
theorem dX3_net_101 : decode cX3_net 101 = .ok (.invokevirtual 163, 3) := by decide +kernel
theorem dX3_net_104 : decode cX3_net 104 = .ok (.ireturn, 1) := by decide +kernel
theorem dX3_net_105 : decode cX3_net 105 = .ok (.aload_n 0, 1) := by decide +kernel
theorem dX3_net_106 : decode cX3_net 106 = .ok (.getfield 12, 3) := by decide +kernel
theorem dX3_net_109 : decode cX3_net 109 = .ok (.iload_n 1, 1) := by decide +kernel
theorem dX3_net_110 : decode cX3_net 110 = .ok (.invokevirtual 166, 3) := by decide +kernel
theorem dX3_net_113 : decode cX3_net 113 = .ok (.ireturn, 1) := by decide +kernel
theorem dX3_net_114 : decode cX3_net 114 = .ok (.new 48, 3) := by decide +kernel
theorem dX3_net_117 : decode cX3_net 117 = .ok (.dup, 1) := by decide +kernel
theorem dX3_net_118 : decode cX3_net 118 = .ok (.ldc 118, 2) := by decide +kernel
theorem dX3_net_120 : decode cX3_net 120 = .ok (.invokespecial 52, 3) := by decide +kernel
theorem dX3_net_123 : decode cX3_net 123 = .ok (.athrow, 1) := by decide +kernel
theorem dX3_count_0 : decode cX3_count 0 = .ok (.iload_n 1, 1) := by decide +kernel
theorem dX3_count_1 : decode cX3_count 1 = .ok (.tableswitch 83 0 5 #[39, 47, 55, 60, 65, 70], 39) := by decide +kernel
theorem dX3_count_40 : decode cX3_count 40 = .ok (.aload_n 0, 1) := by decide +kernel
theorem dX3_count_41 : decode cX3_count 41 = .ok (.getfield 26, 3) := by decide +kernel
theorem dX3_count_44 : decode cX3_count 44 = .ok (.getfield 91, 3) := by decide +kernel
theorem dX3_count_47 : decode cX3_count 47 = .ok (.ireturn, 1) := by decide +kernel
theorem dX3_count_48 : decode cX3_count 48 = .ok (.aload_n 0, 1) := by decide +kernel
theorem dX3_count_49 : decode cX3_count 49 = .ok (.getfield 26, 3) := by decide +kernel
theorem dX3_count_52 : decode cX3_count 52 = .ok (.getfield 100, 3) := by decide +kernel
theorem dX3_count_55 : decode cX3_count 55 = .ok (.ireturn, 1) := by decide +kernel
theorem dX3_count_56 : decode cX3_count 56 = .ok (.aload_n 0, 1) := by decide +kernel
theorem dX3_count_57 : decode cX3_count 57 = .ok (.invokevirtual 169, 3) := by decide +kernel
theorem dX3_count_60 : decode cX3_count 60 = .ok (.ireturn, 1) := by decide +kernel
theorem dX3_count_61 : decode cX3_count 61 = .ok (.aload_n 0, 1) := by decide +kernel
theorem dX3_count_62 : decode cX3_count 62 = .ok (.getfield 37, 3) := by decide +kernel
theorem dX3_count_65 : decode cX3_count 65 = .ok (.ireturn, 1) := by decide +kernel
theorem dX3_count_66 : decode cX3_count 66 = .ok (.aload_n 0, 1) := by decide +kernel
theorem dX3_count_67 : decode cX3_count 67 = .ok (.getfield 41, 3) := by decide +kernel
theorem dX3_count_70 : decode cX3_count 70 = .ok (.ireturn, 1) := by decide +kernel
theorem dX3_count_71 : decode cX3_count 71 = .ok (.aload_n 0, 1) := by decide +kernel
theorem dX3_count_72 : decode cX3_count 72 = .ok (.getfield 33, 3) := by decide +kernel
theorem dX3_count_75 : decode cX3_count 75 = .ok (.ifCond .eq 7, 3) := by decide +kernel
theorem dX3_count_78 : decode cX3_count 78 = .ok (.iconst 1, 1) := by decide +kernel
theorem dX3_count_79 : decode cX3_count 79 = .ok (.goto 4, 3) := by decide +kernel
theorem dX3_count_82 : decode cX3_count 82 = .ok (.iconst 0, 1) := by decide +kernel
theorem dX3_count_83 : decode cX3_count 83 = .ok (.ireturn, 1) := by decide +kernel
theorem dX3_count_84 : decode cX3_count 84 = .ok (.new 48, 3) := by decide +kernel
theorem dX3_count_87 : decode cX3_count 87 = .ok (.dup, 1) := by decide +kernel
theorem dX3_count_88 : decode cX3_count 88 = .ok (.ldc 118, 2) := by decide +kernel
theorem dX3_count_90 : decode cX3_count 90 = .ok (.invokespecial 52, 3) := by decide +kernel
theorem dX3_count_93 : decode cX3_count 93 = .ok (.athrow, 1) := by decide +kernel
theorem dX3_used_0 : decode cX3_used 0 = .ok (.aload_n 0, 1) := by decide +kernel
theorem dX3_used_1 : decode cX3_used 1 = .ok (.getfield 26, 3) := by decide +kernel
theorem dX3_used_4 : decode cX3_used 4 = .ok (.getfield 91, 3) := by decide +kernel
theorem dX3_used_7 : decode cX3_used 7 = .ok (.ifCond .ne 5, 3) := by decide +kernel
theorem dX3_used_10 : decode cX3_used 10 = .ok (.fconst 0, 1) := by decide +kernel
theorem dX3_used_11 : decode cX3_used 11 = .ok (.freturn, 1) := by decide +kernel
theorem dX3_used_12 : decode cX3_used 12 = .ok (.aload_n 0, 1) := by decide +kernel
theorem dX3_used_13 : decode cX3_used 13 = .ok (.getfield 26, 3) := by decide +kernel
theorem dX3_used_16 : decode cX3_used 16 = .ok (.invokevirtual 172, 3) := by decide +kernel
theorem dX3_used_19 : decode cX3_used 19 = .ok (.i2f, 1) := by decide +kernel
theorem dX3_used_20 : decode cX3_used 20 = .ok (.bipush 20, 2) := by decide +kernel
theorem dX3_used_22 : decode cX3_used 22 = .ok (.aload_n 0, 1) := by decide +kernel
theorem dX3_used_23 : decode cX3_used 23 = .ok (.getfield 26, 3) := by decide +kernel
theorem dX3_used_26 : decode cX3_used 26 = .ok (.getfield 91, 3) := by decide +kernel
theorem dX3_used_29 : decode cX3_used 29 = .ok (.imul, 1) := by decide +kernel
theorem dX3_used_30 : decode cX3_used 30 = .ok (.i2f, 1) := by decide +kernel
theorem dX3_used_31 : decode cX3_used 31 = .ok (.fdiv, 1) := by decide +kernel
theorem dX3_used_32 : decode cX3_used 32 = .ok (.freturn, 1) := by decide +kernel
theorem dX3_isColumn_0 : decode cX3_isColumn 0 = .ok (.iload_n 0, 1) := by decide +kernel
theorem dX3_isColumn_1 : decode cX3_isColumn 1 = .ok (.ifCond .lt 13, 3) := by decide +kernel
theorem dX3_isColumn_4 : decode cX3_isColumn 4 = .ok (.iload_n 0, 1) := by decide +kernel
theorem dX3_isColumn_5 : decode cX3_isColumn 5 = .ok (.bipush 20, 2) := by decide +kernel
theorem dX3_isColumn_7 : decode cX3_isColumn 7 = .ok (.if_icmp .ge 7, 3) := by decide +kernel
theorem dX3_isColumn_10 : decode cX3_isColumn 10 = .ok (.iconst 1, 1) := by decide +kernel
theorem dX3_isColumn_11 : decode cX3_isColumn 11 = .ok (.goto 4, 3) := by decide +kernel
theorem dX3_isColumn_14 : decode cX3_isColumn 14 = .ok (.iconst 0, 1) := by decide +kernel
theorem dX3_isColumn_15 : decode cX3_isColumn 15 = .ok (.ireturn, 1) := by decide +kernel
theorem dX3_isNet_0 : decode cX3_isNet 0 = .ok (.iload_n 0, 1) := by decide +kernel
theorem dX3_isNet_1 : decode cX3_isNet 1 = .ok (.iconst 1, 1) := by decide +kernel
theorem dX3_isNet_2 : decode cX3_isNet 2 = .ok (.if_icmp .lt 13, 3) := by decide +kernel
theorem dX3_isNet_5 : decode cX3_isNet 5 = .ok (.iload_n 0, 1) := by decide +kernel
theorem dX3_isNet_6 : decode cX3_isNet 6 = .ok (.bipush 9, 2) := by decide +kernel
theorem dX3_isNet_8 : decode cX3_isNet 8 = .ok (.if_icmp .gt 7, 3) := by decide +kernel
theorem dX3_isNet_11 : decode cX3_isNet 11 = .ok (.iconst 1, 1) := by decide +kernel
theorem dX3_isNet_12 : decode cX3_isNet 12 = .ok (.goto 4, 3) := by decide +kernel
theorem dX3_isNet_15 : decode cX3_isNet 15 = .ok (.iconst 0, 1) := by decide +kernel
theorem dX3_isNet_16 : decode cX3_isNet 16 = .ok (.ireturn, 1) := by decide +kernel
theorem dX3_isTrack_0 : decode cX3_isTrack 0 = .ok (.iload_n 1, 1) := by decide +kernel
theorem dX3_isTrack_1 : decode cX3_isTrack 1 = .ok (.ifCond .lt 18, 3) := by decide +kernel
theorem dX3_isTrack_4 : decode cX3_isTrack 4 = .ok (.iload_n 1, 1) := by decide +kernel
theorem dX3_isTrack_5 : decode cX3_isTrack 5 = .ok (.aload_n 0, 1) := by decide +kernel
theorem dX3_isTrack_6 : decode cX3_isTrack 6 = .ok (.getfield 26, 3) := by decide +kernel
theorem dX3_isTrack_9 : decode cX3_isTrack 9 = .ok (.getfield 91, 3) := by decide +kernel
theorem dX3_isTrack_12 : decode cX3_isTrack 12 = .ok (.if_icmp .ge 7, 3) := by decide +kernel
theorem dX3_isTrack_15 : decode cX3_isTrack 15 = .ok (.iconst 1, 1) := by decide +kernel
theorem dX3_isTrack_16 : decode cX3_isTrack 16 = .ok (.goto 4, 3) := by decide +kernel
theorem dX3_isTrack_19 : decode cX3_isTrack 19 = .ok (.iconst 0, 1) := by decide +kernel
theorem dX3_isTrack_20 : decode cX3_isTrack 20 = .ok (.ireturn, 1) := by decide +kernel
theorem dX3_draftHasRing_0 : decode cX3_draftHasRing 0 = .ok (.aload_n 0, 1) := by decide +kernel
theorem dX3_draftHasRing_1 : decode cX3_draftHasRing 1 = .ok (.getfield 30, 3) := by decide +kernel
theorem dX3_draftHasRing_4 : decode cX3_draftHasRing 4 = .ok (.aload_n 0, 1) := by decide +kernel
theorem dX3_draftHasRing_5 : decode cX3_draftHasRing 5 = .ok (.getfield 12, 3) := by decide +kernel
theorem dX3_draftHasRing_8 : decode cX3_draftHasRing 8 = .ok (.iload_n 1, 1) := by decide +kernel
theorem dX3_draftHasRing_9 : decode cX3_draftHasRing 9 = .ok (.invokevirtual 146, 3) := by decide +kernel
theorem dX3_draftHasRing_12 : decode cX3_draftHasRing 12 = .ok (.aload_n 0, 1) := by decide +kernel
theorem dX3_draftHasRing_13 : decode cX3_draftHasRing 13 = .ok (.getfield 19, 3) := by decide +kernel
theorem dX3_draftHasRing_16 : decode cX3_draftHasRing 16 = .ok (.aload_n 0, 1) := by decide +kernel
theorem dX3_draftHasRing_17 : decode cX3_draftHasRing 17 = .ok (.getfield 30, 3) := by decide +kernel
theorem dX3_draftHasRing_20 : decode cX3_draftHasRing 20 = .ok (.invokevirtual 175, 3) := by decide +kernel
theorem dX3_draftHasRing_23 : decode cX3_draftHasRing 23 = .ok (.iconst (-1), 1) := by decide +kernel
theorem dX3_draftHasRing_24 : decode cX3_draftHasRing 24 = .ok (.if_icmp .eq 7, 3) := by decide +kernel
theorem dX3_draftHasRing_27 : decode cX3_draftHasRing 27 = .ok (.iconst 1, 1) := by decide +kernel
theorem dX3_draftHasRing_28 : decode cX3_draftHasRing 28 = .ok (.goto 4, 3) := by decide +kernel
theorem dX3_draftHasRing_31 : decode cX3_draftHasRing 31 = .ok (.iconst 0, 1) := by decide +kernel
theorem dX3_draftHasRing_32 : decode cX3_draftHasRing 32 = .ok (.ireturn, 1) := by decide +kernel
theorem dX3_tellRingOfDraft_0 : decode cX3_tellRingOfDraft 0 = .ok (.aload_n 0, 1) := by decide +kernel
theorem dX3_tellRingOfDraft_1 : decode cX3_tellRingOfDraft 1 = .ok (.getfield 19, 3) := by decide +kernel
theorem dX3_tellRingOfDraft_4 : decode cX3_tellRingOfDraft 4 = .ok (.aload_n 0, 1) := by decide +kernel
theorem dX3_tellRingOfDraft_5 : decode cX3_tellRingOfDraft 5 = .ok (.getfield 30, 3) := by decide +kernel
theorem dX3_tellRingOfDraft_8 : decode cX3_tellRingOfDraft 8 = .ok (.invokevirtual 179, 3) := by decide +kernel
theorem dX3_tellRingOfDraft_11 : decode cX3_tellRingOfDraft 11 = .ok (.aload_n 0, 1) := by decide +kernel
theorem dX3_tellRingOfDraft_12 : decode cX3_tellRingOfDraft 12 = .ok (.dup, 1) := by decide +kernel
theorem dX3_tellRingOfDraft_13 : decode cX3_tellRingOfDraft 13 = .ok (.getfield 41, 3) := by decide +kernel
theorem dX3_tellRingOfDraft_16 : decode cX3_tellRingOfDraft 16 = .ok (.iconst 1, 1) := by decide +kernel
theorem dX3_tellRingOfDraft_17 : decode cX3_tellRingOfDraft 17 = .ok (.iadd, 1) := by decide +kernel
theorem dX3_tellRingOfDraft_18 : decode cX3_tellRingOfDraft 18 = .ok (.putfield 41, 3) := by decide +kernel
theorem dX3_tellRingOfDraft_21 : decode cX3_tellRingOfDraft 21 = .ok (.return_, 1) := by decide +kernel
theorem dX3_keepDraft_0 : decode cX3_keepDraft 0 = .ok (.aload_n 0, 1) := by decide +kernel
theorem dX3_keepDraft_1 : decode cX3_keepDraft 1 = .ok (.getfield 30, 3) := by decide +kernel
theorem dX3_keepDraft_4 : decode cX3_keepDraft 4 = .ok (.invokevirtual 183, 3) := by decide +kernel
theorem dX3_keepDraft_7 : decode cX3_keepDraft 7 = .ok (.aload_n 0, 1) := by decide +kernel
theorem dX3_keepDraft_8 : decode cX3_keepDraft 8 = .ok (.getfield 26, 3) := by decide +kernel
theorem dX3_keepDraft_11 : decode cX3_keepDraft 11 = .ok (.astore_n 1, 1) := by decide +kernel
theorem dX3_keepDraft_12 : decode cX3_keepDraft 12 = .ok (.aload_n 0, 1) := by decide +kernel
theorem dX3_keepDraft_13 : decode cX3_keepDraft 13 = .ok (.aload_n 0, 1) := by decide +kernel
theorem dX3_keepDraft_14 : decode cX3_keepDraft 14 = .ok (.getfield 30, 3) := by decide +kernel
theorem dX3_keepDraft_17 : decode cX3_keepDraft 17 = .ok (.putfield 26, 3) := by decide +kernel
theorem dX3_keepDraft_20 : decode cX3_keepDraft 20 = .ok (.aload_n 0, 1) := by decide +kernel
theorem dX3_keepDraft_21 : decode cX3_keepDraft 21 = .ok (.aload_n 1, 1) := by decide +kernel
theorem dX3_keepDraft_22 : decode cX3_keepDraft 22 = .ok (.putfield 30, 3) := by decide +kernel
theorem dX3_keepDraft_25 : decode cX3_keepDraft 25 = .ok (.aload_n 0, 1) := by decide +kernel
theorem dX3_keepDraft_26 : decode cX3_keepDraft 26 = .ok (.iconst 1, 1) := by decide +kernel
theorem dX3_keepDraft_27 : decode cX3_keepDraft 27 = .ok (.putfield 33, 3) := by decide +kernel
theorem dX3_keepDraft_30 : decode cX3_keepDraft 30 = .ok (.aload_n 0, 1) := by decide +kernel
theorem dX3_keepDraft_31 : decode cX3_keepDraft 31 = .ok (.dup, 1) := by decide +kernel
theorem dX3_keepDraft_32 : decode cX3_keepDraft 32 = .ok (.getfield 37, 3) := by decide +kernel
theorem dX3_keepDraft_35 : decode cX3_keepDraft 35 = .ok (.iconst 1, 1) := by decide +kernel
theorem dX3_keepDraft_36 : decode cX3_keepDraft 36 = .ok (.iadd, 1) := by decide +kernel
theorem dX3_keepDraft_37 : decode cX3_keepDraft 37 = .ok (.putfield 37, 3) := by decide +kernel
theorem dX3_keepDraft_40 : decode cX3_keepDraft 40 = .ok (.return_, 1) := by decide +kernel
theorem dX3_uprightNet_0 : decode cX3_uprightNet 0 = .ok (.aload_n 0, 1) := by decide +kernel
theorem dX3_uprightNet_1 : decode cX3_uprightNet 1 = .ok (.getfield 12, 3) := by decide +kernel
theorem dX3_uprightNet_4 : decode cX3_uprightNet 4 = .ok (.getfield 186, 3) := by decide +kernel
theorem dX3_uprightNet_7 : decode cX3_uprightNet 7 = .ok (.iload_n 1, 1) := by decide +kernel
theorem dX3_uprightNet_8 : decode cX3_uprightNet 8 = .ok (.iaload, 1) := by decide +kernel
theorem dX3_uprightNet_9 : decode cX3_uprightNet 9 = .ok (.istore_n 3, 1) := by decide +kernel
theorem dX3_uprightNet_10 : decode cX3_uprightNet 10 = .ok (.aload_n 0, 1) := by decide +kernel
theorem dX3_uprightNet_11 : decode cX3_uprightNet 11 = .ok (.getfield 12, 3) := by decide +kernel
theorem dX3_uprightNet_14 : decode cX3_uprightNet 14 = .ok (.getfield 189, 3) := by decide +kernel
theorem dX3_uprightNet_17 : decode cX3_uprightNet 17 = .ok (.iload_n 1, 1) := by decide +kernel
theorem dX3_uprightNet_18 : decode cX3_uprightNet 18 = .ok (.iaload, 1) := by decide +kernel
theorem dX3_uprightNet_19 : decode cX3_uprightNet 19 = .ok (.istore 4, 2) := by decide +kernel
theorem dX3_uprightNet_21 : decode cX3_uprightNet 21 = .ok (.iload_n 3, 1) := by decide +kernel
theorem dX3_uprightNet_22 : decode cX3_uprightNet 22 = .ok (.iload 4, 2) := by decide +kernel
theorem dX3_uprightNet_24 : decode cX3_uprightNet 24 = .ok (.if_icmp .eq 16, 3) := by decide +kernel
theorem dX3_uprightNet_27 : decode cX3_uprightNet 27 = .ok (.iload_n 2, 1) := by decide +kernel
theorem dX3_uprightNet_28 : decode cX3_uprightNet 28 = .ok (.aload_n 0, 1) := by decide +kernel
theorem dX3_uprightNet_29 : decode cX3_uprightNet 29 = .ok (.getfield 26, 3) := by decide +kernel
theorem dX3_uprightNet_32 : decode cX3_uprightNet 32 = .ok (.iload_n 3, 1) := by decide +kernel
theorem dX3_uprightNet_33 : decode cX3_uprightNet 33 = .ok (.iload_n 1, 1) := by decide +kernel
theorem dX3_uprightNet_34 : decode cX3_uprightNet 34 = .ok (.invokevirtual 192, 3) := by decide +kernel
theorem dX3_uprightNet_37 : decode cX3_uprightNet 37 = .ok (.if_icmp .gt 5, 3) := by decide +kernel
theorem dX3_uprightNet_40 : decode cX3_uprightNet 40 = .ok (.iload_n 3, 1) := by decide +kernel
theorem dX3_uprightNet_41 : decode cX3_uprightNet 41 = .ok (.ireturn, 1) := by decide +kernel
theorem dX3_uprightNet_42 : decode cX3_uprightNet 42 = .ok (.iload_n 2, 1) := by decide +kernel
theorem dX3_uprightNet_43 : decode cX3_uprightNet 43 = .ok (.aload_n 0, 1) := by decide +kernel
theorem dX3_uprightNet_44 : decode cX3_uprightNet 44 = .ok (.getfield 26, 3) := by decide +kernel
theorem dX3_uprightNet_47 : decode cX3_uprightNet 47 = .ok (.iload 4, 2) := by decide +kernel
theorem dX3_uprightNet_49 : decode cX3_uprightNet 49 = .ok (.iload_n 1, 1) := by decide +kernel
theorem dX3_uprightNet_50 : decode cX3_uprightNet 50 = .ok (.invokevirtual 195, 3) := by decide +kernel
theorem dX3_uprightNet_53 : decode cX3_uprightNet 53 = .ok (.if_icmp .lt 6, 3) := by decide +kernel
theorem dX3_uprightNet_56 : decode cX3_uprightNet 56 = .ok (.iload 4, 2) := by decide +kernel
theorem dX3_uprightNet_58 : decode cX3_uprightNet 58 = .ok (.ireturn, 1) := by decide +kernel
theorem dX3_uprightNet_59 : decode cX3_uprightNet 59 = .ok (.iconst 0, 1) := by decide +kernel
theorem dX3_uprightNet_60 : decode cX3_uprightNet 60 = .ok (.ireturn, 1) := by decide +kernel
theorem dX3_isVia_0 : decode cX3_isVia 0 = .ok (.aload_n 0, 1) := by decide +kernel
theorem dX3_isVia_1 : decode cX3_isVia 1 = .ok (.getfield 26, 3) := by decide +kernel
theorem dX3_isVia_4 : decode cX3_isVia 4 = .ok (.iload_n 1, 1) := by decide +kernel
theorem dX3_isVia_5 : decode cX3_isVia 5 = .ok (.iload_n 2, 1) := by decide +kernel
theorem dX3_isVia_6 : decode cX3_isVia 6 = .ok (.invokevirtual 125, 3) := by decide +kernel
theorem dX3_isVia_9 : decode cX3_isVia 9 = .ok (.istore_n 3, 1) := by decide +kernel
theorem dX3_isVia_10 : decode cX3_isVia 10 = .ok (.iload_n 3, 1) := by decide +kernel
theorem dX3_isVia_11 : decode cX3_isVia 11 = .ok (.ifCond .eq 30, 3) := by decide +kernel
theorem dX3_isVia_14 : decode cX3_isVia 14 = .ok (.aload_n 0, 1) := by decide +kernel
theorem dX3_isVia_15 : decode cX3_isVia 15 = .ok (.getfield 26, 3) := by decide +kernel
theorem dX3_isVia_18 : decode cX3_isVia 18 = .ok (.iload_n 1, 1) := by decide +kernel
theorem dX3_isVia_19 : decode cX3_isVia 19 = .ok (.iload_n 2, 1) := by decide +kernel
theorem dX3_isVia_20 : decode cX3_isVia 20 = .ok (.iload_n 3, 1) := by decide +kernel
theorem dX3_isVia_21 : decode cX3_isVia 21 = .ok (.invokevirtual 198, 3) := by decide +kernel
theorem dX3_isVia_24 : decode cX3_isVia 24 = .ok (.ifCond .eq 17, 3) := by decide +kernel
theorem dX3_isVia_27 : decode cX3_isVia 27 = .ok (.iload_n 3, 1) := by decide +kernel
theorem dX3_isVia_28 : decode cX3_isVia 28 = .ok (.aload_n 0, 1) := by decide +kernel
theorem dX3_isVia_29 : decode cX3_isVia 29 = .ok (.iload_n 2, 1) := by decide +kernel
theorem dX3_isVia_30 : decode cX3_isVia 30 = .ok (.iload_n 1, 1) := by decide +kernel
theorem dX3_isVia_31 : decode cX3_isVia 31 = .ok (.invokevirtual 131, 3) := by decide +kernel
theorem dX3_isVia_34 : decode cX3_isVia 34 = .ok (.if_icmp .ne 7, 3) := by decide +kernel
theorem dX3_isVia_37 : decode cX3_isVia 37 = .ok (.iconst 1, 1) := by decide +kernel
theorem dX3_isVia_38 : decode cX3_isVia 38 = .ok (.goto 4, 3) := by decide +kernel
theorem dX3_isVia_41 : decode cX3_isVia 41 = .ok (.iconst 0, 1) := by decide +kernel
theorem dX3_isVia_42 : decode cX3_isVia 42 = .ok (.ireturn, 1) := by decide +kernel
theorem dX3_countVias_0 : decode cX3_countVias 0 = .ok (.iconst 0, 1) := by decide +kernel
theorem dX3_countVias_1 : decode cX3_countVias 1 = .ok (.istore_n 1, 1) := by decide +kernel
theorem dX3_countVias_2 : decode cX3_countVias 2 = .ok (.iconst 0, 1) := by decide +kernel
theorem dX3_countVias_3 : decode cX3_countVias 3 = .ok (.istore_n 2, 1) := by decide +kernel
theorem dX3_countVias_4 : decode cX3_countVias 4 = .ok (.iload_n 2, 1) := by decide +kernel
theorem dX3_countVias_5 : decode cX3_countVias 5 = .ok (.aload_n 0, 1) := by decide +kernel
theorem dX3_countVias_6 : decode cX3_countVias 6 = .ok (.getfield 26, 3) := by decide +kernel
theorem dX3_countVias_9 : decode cX3_countVias 9 = .ok (.getfield 91, 3) := by decide +kernel
theorem dX3_countVias_12 : decode cX3_countVias 12 = .ok (.if_icmp .ge 35, 3) := by decide +kernel
theorem dX3_countVias_15 : decode cX3_countVias 15 = .ok (.iconst 0, 1) := by decide +kernel
theorem dX3_countVias_16 : decode cX3_countVias 16 = .ok (.istore_n 3, 1) := by decide +kernel
theorem dX3_countVias_17 : decode cX3_countVias 17 = .ok (.iload_n 3, 1) := by decide +kernel
theorem dX3_countVias_18 : decode cX3_countVias 18 = .ok (.bipush 20, 2) := by decide +kernel
theorem dX3_countVias_20 : decode cX3_countVias 20 = .ok (.if_icmp .ge 21, 3) := by decide +kernel
theorem dX3_countVias_23 : decode cX3_countVias 23 = .ok (.aload_n 0, 1) := by decide +kernel
theorem dX3_countVias_24 : decode cX3_countVias 24 = .ok (.iload_n 2, 1) := by decide +kernel
theorem dX3_countVias_25 : decode cX3_countVias 25 = .ok (.iload_n 3, 1) := by decide +kernel
theorem dX3_countVias_26 : decode cX3_countVias 26 = .ok (.invokevirtual 134, 3) := by decide +kernel
theorem dX3_countVias_29 : decode cX3_countVias 29 = .ok (.ifCond .eq 6, 3) := by decide +kernel
theorem dX3_countVias_32 : decode cX3_countVias 32 = .ok (.iinc 1 1, 3) := by decide +kernel
theorem dX3_countVias_35 : decode cX3_countVias 35 = .ok (.iinc 3 1, 3) := by decide +kernel
theorem dX3_countVias_38 : decode cX3_countVias 38 = .ok (.goto (-21), 3) := by decide +kernel
theorem dX3_countVias_41 : decode cX3_countVias 41 = .ok (.iinc 2 1, 3) := by decide +kernel
theorem dX3_countVias_44 : decode cX3_countVias 44 = .ok (.goto (-40), 3) := by decide +kernel
theorem dX3_countVias_47 : decode cX3_countVias 47 = .ok (.iload_n 1, 1) := by decide +kernel
theorem dX3_countVias_48 : decode cX3_countVias 48 = .ok (.ireturn, 1) := by decide +kernel
theorem dX4_init_0 : decode cX4_init 0 = .ok (.aload_n 0, 1) := by decide +kernel
theorem dX4_init_1 : decode cX4_init 1 = .ok (.invokespecial 1, 3) := by decide +kernel
theorem dX4_init_4 : decode cX4_init 4 = .ok (.aload_n 0, 1) := by decide +kernel
theorem dX4_init_5 : decode cX4_init 5 = .ok (.bipush 40, 2) := by decide +kernel
theorem dX4_init_7 : decode cX4_init 7 = .ok (.newarray .int, 2) := by decide +kernel
theorem dX4_init_9 : decode cX4_init 9 = .ok (.putfield 7, 3) := by decide +kernel
theorem dX4_init_12 : decode cX4_init 12 = .ok (.aload_n 0, 1) := by decide +kernel
theorem dX4_init_13 : decode cX4_init 13 = .ok (.bipush 40, 2) := by decide +kernel
theorem dX4_init_15 : decode cX4_init 15 = .ok (.newarray .int, 2) := by decide +kernel
theorem dX4_init_17 : decode cX4_init 17 = .ok (.putfield 13, 3) := by decide +kernel
theorem dX4_init_20 : decode cX4_init 20 = .ok (.aload_n 0, 1) := by decide +kernel
theorem dX4_init_21 : decode cX4_init 21 = .ok (.bipush 40, 2) := by decide +kernel
theorem dX4_init_23 : decode cX4_init 23 = .ok (.newarray .int, 2) := by decide +kernel
theorem dX4_init_25 : decode cX4_init 25 = .ok (.putfield 16, 3) := by decide +kernel
theorem dX4_init_28 : decode cX4_init 28 = .ok (.aload_n 0, 1) := by decide +kernel
theorem dX4_init_29 : decode cX4_init 29 = .ok (.bipush 40, 2) := by decide +kernel
theorem dX4_init_31 : decode cX4_init 31 = .ok (.newarray .int, 2) := by decide +kernel
theorem dX4_init_33 : decode cX4_init 33 = .ok (.putfield 19, 3) := by decide +kernel
theorem dX4_init_36 : decode cX4_init 36 = .ok (.aload_n 0, 1) := by decide +kernel
theorem dX4_init_37 : decode cX4_init 37 = .ok (.bipush 40, 2) := by decide +kernel
theorem dX4_init_39 : decode cX4_init 39 = .ok (.newarray .int, 2) := by decide +kernel
theorem dX4_init_41 : decode cX4_init 41 = .ok (.putfield 22, 3) := by decide +kernel
theorem dX4_init_44 : decode cX4_init 44 = .ok (.aload_n 0, 1) := by decide +kernel
theorem dX4_init_45 : decode cX4_init 45 = .ok (.bipush 40, 2) := by decide +kernel
theorem dX4_init_47 : decode cX4_init 47 = .ok (.newarray .long, 2) := by decide +kernel
theorem dX4_init_49 : decode cX4_init 49 = .ok (.putfield 25, 3) := by decide +kernel
theorem dX4_init_52 : decode cX4_init 52 = .ok (.aload_n 0, 1) := by decide +kernel
theorem dX4_init_53 : decode cX4_init 53 = .ok (.bipush 40, 2) := by decide +kernel
theorem dX4_init_55 : decode cX4_init 55 = .ok (.newarray .long, 2) := by decide +kernel
theorem dX4_init_57 : decode cX4_init 57 = .ok (.putfield 29, 3) := by decide +kernel
theorem dX4_init_60 : decode cX4_init 60 = .ok (.aload_n 0, 1) := by decide +kernel
theorem dX4_init_61 : decode cX4_init 61 = .ok (.bipush 40, 2) := by decide +kernel
theorem dX4_init_63 : decode cX4_init 63 = .ok (.newarray .int, 2) := by decide +kernel
theorem dX4_init_65 : decode cX4_init 65 = .ok (.putfield 32, 3) := by decide +kernel
theorem dX4_init_68 : decode cX4_init 68 = .ok (.aload_n 0, 1) := by decide +kernel
theorem dX4_init_69 : decode cX4_init 69 = .ok (.bipush 40, 2) := by decide +kernel
theorem dX4_init_71 : decode cX4_init 71 = .ok (.newarray .int, 2) := by decide +kernel
theorem dX4_init_73 : decode cX4_init 73 = .ok (.putfield 35, 3) := by decide +kernel
theorem dX4_init_76 : decode cX4_init 76 = .ok (.aload_n 0, 1) := by decide +kernel
theorem dX4_init_77 : decode cX4_init 77 = .ok (.bipush 40, 2) := by decide +kernel
theorem dX4_init_79 : decode cX4_init 79 = .ok (.newarray .int, 2) := by decide +kernel
theorem dX4_init_81 : decode cX4_init 81 = .ok (.putfield 38, 3) := by decide +kernel
theorem dX4_init_84 : decode cX4_init 84 = .ok (.aload_n 0, 1) := by decide +kernel
theorem dX4_init_85 : decode cX4_init 85 = .ok (.bipush 40, 2) := by decide +kernel
theorem dX4_init_87 : decode cX4_init 87 = .ok (.newarray .int, 2) := by decide +kernel
theorem dX4_init_89 : decode cX4_init 89 = .ok (.putfield 41, 3) := by decide +kernel
theorem dX4_init_92 : decode cX4_init 92 = .ok (.aload_n 0, 1) := by decide +kernel
theorem dX4_init_93 : decode cX4_init 93 = .ok (.bipush 40, 2) := by decide +kernel
theorem dX4_init_95 : decode cX4_init 95 = .ok (.newarray .int, 2) := by decide +kernel
theorem dX4_init_97 : decode cX4_init 97 = .ok (.putfield 44, 3) := by decide +kernel
theorem dX4_init_100 : decode cX4_init 100 = .ok (.aload_n 0, 1) := by decide +kernel
theorem dX4_init_101 : decode cX4_init 101 = .ok (.bipush 40, 2) := by decide +kernel
theorem dX4_init_103 : decode cX4_init 103 = .ok (.newarray .int, 2) := by decide +kernel
theorem dX4_init_105 : decode cX4_init 105 = .ok (.putfield 47, 3) := by decide +kernel
theorem dX4_init_108 : decode cX4_init 108 = .ok (.aload_n 0, 1) := by decide +kernel
theorem dX4_init_109 : decode cX4_init 109 = .ok (.bipush 40, 2) := by decide +kernel
theorem dX4_init_111 : decode cX4_init 111 = .ok (.newarray .int, 2) := by decide +kernel
theorem dX4_init_113 : decode cX4_init 113 = .ok (.putfield 50, 3) := by decide +kernel
theorem dX4_init_116 : decode cX4_init 116 = .ok (.aload_n 0, 1) := by decide +kernel
theorem dX4_init_117 : decode cX4_init 117 = .ok (.bipush 40, 2) := by decide +kernel
theorem dX4_init_119 : decode cX4_init 119 = .ok (.newarray .int, 2) := by decide +kernel
theorem dX4_init_121 : decode cX4_init 121 = .ok (.putfield 53, 3) := by decide +kernel
theorem dX4_init_124 : decode cX4_init 124 = .ok (.return_, 1) := by decide +kernel
theorem dX4_thrown_0 : decode cX4_thrown 0 = .ok (.aload_n 0, 1) := by decide +kernel
theorem dX4_thrown_1 : decode cX4_thrown 1 = .ok (.getfield 56, 3) := by decide +kernel
theorem dX4_thrown_4 : decode cX4_thrown 4 = .ok (.ireturn, 1) := by decide +kernel
theorem dX4_fail_0 : decode cX4_fail 0 = .ok (.aload_n 0, 1) := by decide +kernel
theorem dX4_fail_1 : decode cX4_fail 1 = .ok (.iload_n 1, 1) := by decide +kernel
theorem dX4_fail_2 : decode cX4_fail 2 = .ok (.putfield 56, 3) := by decide +kernel
theorem dX4_fail_5 : decode cX4_fail 5 = .ok (.iconst 0, 1) := by decide +kernel
theorem dX4_fail_6 : decode cX4_fail 6 = .ok (.ireturn, 1) := by decide +kernel
theorem dX4_in_0 : decode cX4_in 0 = .ok (.iload_n 0, 1) := by decide +kernel
theorem dX4_in_1 : decode cX4_in 1 = .ok (.iload_n 1, 1) := by decide +kernel
theorem dX4_in_2 : decode cX4_in 2 = .ok (.if_icmp .lt 12, 3) := by decide +kernel
theorem dX4_in_5 : decode cX4_in 5 = .ok (.iload_n 0, 1) := by decide +kernel
theorem dX4_in_6 : decode cX4_in 6 = .ok (.iload_n 2, 1) := by decide +kernel
theorem dX4_in_7 : decode cX4_in 7 = .ok (.if_icmp .gt 7, 3) := by decide +kernel
theorem dX4_in_10 : decode cX4_in 10 = .ok (.iconst 1, 1) := by decide +kernel
theorem dX4_in_11 : decode cX4_in 11 = .ok (.goto 4, 3) := by decide +kernel
theorem dX4_in_14 : decode cX4_in 14 = .ok (.iconst 0, 1) := by decide +kernel
theorem dX4_in_15 : decode cX4_in 15 = .ok (.ireturn, 1) := by decide +kernel
theorem dX4_pin_0 : decode cX4_pin 0 = .ok (.aload_n 0, 1) := by decide +kernel
theorem dX4_pin_1 : decode cX4_pin 1 = .ok (.iload_n 1, 1) := by decide +kernel
theorem dX4_pin_2 : decode cX4_pin 2 = .ok (.iconst 0, 1) := by decide +kernel
theorem dX4_pin_3 : decode cX4_pin 3 = .ok (.bipush 19, 2) := by decide +kernel
theorem dX4_pin_5 : decode cX4_pin 5 = .ok (.invokestatic 60, 3) := by decide +kernel
theorem dX4_pin_8 : decode cX4_pin 8 = .ok (.ifCond .ne 7, 3) := by decide +kernel
theorem dX4_pin_11 : decode cX4_pin 11 = .ok (.iconst 1, 1) := by decide +kernel
theorem dX4_pin_12 : decode cX4_pin 12 = .ok (.goto 18, 3) := by decide +kernel
theorem dX4_pin_15 : decode cX4_pin 15 = .ok (.iload_n 3, 1) := by decide +kernel
theorem dX4_pin_16 : decode cX4_pin 16 = .ok (.iconst 0, 1) := by decide +kernel
theorem dX4_pin_17 : decode cX4_pin 17 = .ok (.bipush 9, 2) := by decide +kernel
theorem dX4_pin_19 : decode cX4_pin 19 = .ok (.invokestatic 60, 3) := by decide +kernel
theorem dX4_pin_22 : decode cX4_pin 22 = .ok (.ifCond .ne 7, 3) := by decide +kernel
theorem dX4_pin_25 : decode cX4_pin 25 = .ok (.iconst 2, 1) := by decide +kernel
theorem dX4_pin_26 : decode cX4_pin 26 = .ok (.goto 4, 3) := by decide +kernel
theorem dX4_pin_29 : decode cX4_pin 29 = .ok (.iconst 0, 1) := by decide +kernel
theorem dX4_pin_30 : decode cX4_pin 30 = .ok (.putfield 56, 3) := by decide +kernel
theorem dX4_pin_33 : decode cX4_pin 33 = .ok (.aload_n 0, 1) := by decide +kernel
theorem dX4_pin_34 : decode cX4_pin 34 = .ok (.getfield 56, 3) := by decide +kernel
theorem dX4_pin_37 : decode cX4_pin 37 = .ok (.ifCond .le 5, 3) := by decide +kernel
theorem dX4_pin_40 : decode cX4_pin 40 = .ok (.iconst 0, 1) := by decide +kernel
theorem dX4_pin_41 : decode cX4_pin 41 = .ok (.ireturn, 1) := by decide +kernel
theorem dX4_pin_42 : decode cX4_pin 42 = .ok (.iload_n 2, 1) := by decide +kernel
theorem dX4_pin_43 : decode cX4_pin 43 = .ok (.ifCond .eq 7, 3) := by decide +kernel
theorem dX4_pin_46 : decode cX4_pin 46 = .ok (.iload_n 1, 1) := by decide +kernel
theorem dX4_pin_47 : decode cX4_pin 47 = .ok (.goto 7, 3) := by decide +kernel
theorem dX4_pin_50 : decode cX4_pin 50 = .ok (.bipush 20, 2) := by decide +kernel
theorem dX4_pin_52 : decode cX4_pin 52 = .ok (.iload_n 1, 1) := by decide +kernel
theorem dX4_pin_53 : decode cX4_pin 53 = .ok (.iadd, 1) := by decide +kernel
theorem dX4_pin_54 : decode cX4_pin 54 = .ok (.istore 4, 2) := by decide +kernel
theorem dX4_pin_56 : decode cX4_pin 56 = .ok (.aload_n 0, 1) := by decide +kernel
theorem dX4_pin_57 : decode cX4_pin 57 = .ok (.getfield 7, 3) := by decide +kernel
theorem dX4_pin_60 : decode cX4_pin 60 = .ok (.iload 4, 2) := by decide +kernel
theorem dX4_pin_62 : decode cX4_pin 62 = .ok (.iaload, 1) := by decide +kernel
theorem dX4_pin_63 : decode cX4_pin 63 = .ok (.istore 5, 2) := by decide +kernel
theorem dX4_pin_65 : decode cX4_pin 65 = .ok (.aload_n 0, 1) := by decide +kernel
theorem dX4_pin_66 : decode cX4_pin 66 = .ok (.getfield 7, 3) := by decide +kernel
theorem dX4_pin_69 : decode cX4_pin 69 = .ok (.iload 4, 2) := by decide +kernel
theorem dX4_pin_71 : decode cX4_pin 71 = .ok (.iload_n 3, 1) := by decide +kernel
theorem dX4_pin_72 : decode cX4_pin 72 = .ok (.iastore, 1) := by decide +kernel
theorem dX4_pin_73 : decode cX4_pin 73 = .ok (.aload_n 0, 1) := by decide +kernel
theorem dX4_pin_74 : decode cX4_pin 74 = .ok (.iconst 0, 1) := by decide +kernel
theorem dX4_pin_75 : decode cX4_pin 75 = .ok (.putfield 64, 3) := by decide +kernel
theorem dX4_pin_78 : decode cX4_pin 78 = .ok (.aload_n 0, 1) := by decide +kernel
theorem dX4_pin_79 : decode cX4_pin 79 = .ok (.iconst 0, 1) := by decide +kernel
theorem dX4_pin_80 : decode cX4_pin 80 = .ok (.putfield 68, 3) := by decide +kernel
theorem dX4_pin_83 : decode cX4_pin 83 = .ok (.aload_n 0, 1) := by decide +kernel
theorem dX4_pin_84 : decode cX4_pin 84 = .ok (.iconst 0, 1) := by decide +kernel
theorem dX4_pin_85 : decode cX4_pin 85 = .ok (.putfield 71, 3) := by decide +kernel
theorem dX4_pin_88 : decode cX4_pin 88 = .ok (.iload 5, 2) := by decide +kernel
theorem dX4_pin_90 : decode cX4_pin 90 = .ok (.ireturn, 1) := by decide +kernel
theorem dX4_columns_0 : decode cX4_columns 0 = .ok (.iconst 0, 1) := by decide +kernel
theorem dX4_columns_1 : decode cX4_columns 1 = .ok (.istore_n 2, 1) := by decide +kernel
theorem dX4_columns_2 : decode cX4_columns 2 = .ok (.iconst 0, 1) := by decide +kernel
theorem dX4_columns_3 : decode cX4_columns 3 = .ok (.istore_n 3, 1) := by decide +kernel
theorem dX4_columns_4 : decode cX4_columns 4 = .ok (.iload_n 3, 1) := by decide +kernel
theorem dX4_columns_5 : decode cX4_columns 5 = .ok (.bipush 20, 2) := by decide +kernel
theorem dX4_columns_7 : decode cX4_columns 7 = .ok (.if_icmp .ge 42, 3) := by decide +kernel
theorem dX4_columns_10 : decode cX4_columns 10 = .ok (.aload_n 0, 1) := by decide +kernel
theorem dX4_columns_11 : decode cX4_columns 11 = .ok (.getfield 7, 3) := by decide +kernel
theorem dX4_columns_14 : decode cX4_columns 14 = .ok (.iload_n 3, 1) := by decide +kernel
theorem dX4_columns_15 : decode cX4_columns 15 = .ok (.iaload, 1) := by decide +kernel
theorem dX4_columns_16 : decode cX4_columns 16 = .ok (.iload_n 1, 1) := by decide +kernel
theorem dX4_columns_17 : decode cX4_columns 17 = .ok (.if_icmp .eq 16, 3) := by decide +kernel
theorem dX4_columns_20 : decode cX4_columns 20 = .ok (.aload_n 0, 1) := by decide +kernel
theorem dX4_columns_21 : decode cX4_columns 21 = .ok (.getfield 7, 3) := by decide +kernel
theorem dX4_columns_24 : decode cX4_columns 24 = .ok (.bipush 20, 2) := by decide +kernel
theorem dX4_columns_26 : decode cX4_columns 26 = .ok (.iload_n 3, 1) := by decide +kernel
theorem dX4_columns_27 : decode cX4_columns 27 = .ok (.iadd, 1) := by decide +kernel
theorem dX4_columns_28 : decode cX4_columns 28 = .ok (.iaload, 1) := by decide +kernel
theorem dX4_columns_29 : decode cX4_columns 29 = .ok (.iload_n 1, 1) := by decide +kernel
theorem dX4_columns_30 : decode cX4_columns 30 = .ok (.if_icmp .ne 11, 3) := by decide +kernel
theorem dX4_columns_33 : decode cX4_columns 33 = .ok (.iload_n 2, 1) := by decide +kernel
theorem dX4_columns_34 : decode cX4_columns 34 = .ok (.iconst 1, 1) := by decide +kernel
theorem dX4_columns_35 : decode cX4_columns 35 = .ok (.iload_n 3, 1) := by decide +kernel
theorem dX4_columns_36 : decode cX4_columns 36 = .ok (.ishl, 1) := by decide +kernel
theorem dX4_columns_37 : decode cX4_columns 37 = .ok (.ior, 1) := by decide +kernel
theorem dX4_columns_38 : decode cX4_columns 38 = .ok (.goto 4, 3) := by decide +kernel
theorem dX4_columns_41 : decode cX4_columns 41 = .ok (.iload_n 2, 1) := by decide +kernel
theorem dX4_columns_42 : decode cX4_columns 42 = .ok (.istore_n 2, 1) := by decide +kernel
theorem dX4_columns_43 : decode cX4_columns 43 = .ok (.iinc 3 1, 3) := by decide +kernel
theorem dX4_columns_46 : decode cX4_columns 46 = .ok (.goto (-42), 3) := by decide +kernel
theorem dX4_columns_49 : decode cX4_columns 49 = .ok (.iload_n 2, 1) := by decide +kernel
theorem dX4_columns_50 : decode cX4_columns 50 = .ok (.ireturn, 1) := by decide +kernel
theorem dX4_pinsOf_0 : decode cX4_pinsOf 0 = .ok (.iconst 0, 1) := by decide +kernel
theorem dX4_pinsOf_1 : decode cX4_pinsOf 1 = .ok (.istore_n 2, 1) := by decide +kernel
theorem dX4_pinsOf_2 : decode cX4_pinsOf 2 = .ok (.iconst 0, 1) := by decide +kernel
theorem dX4_pinsOf_3 : decode cX4_pinsOf 3 = .ok (.istore_n 3, 1) := by decide +kernel
theorem dX4_pinsOf_4 : decode cX4_pinsOf 4 = .ok (.iload_n 3, 1) := by decide +kernel
theorem dX4_pinsOf_5 : decode cX4_pinsOf 5 = .ok (.bipush 40, 2) := by decide +kernel
theorem dX4_pinsOf_7 : decode cX4_pinsOf 7 = .ok (.if_icmp .ge 27, 3) := by decide +kernel
theorem dX4_pinsOf_10 : decode cX4_pinsOf 10 = .ok (.aload_n 0, 1) := by decide +kernel
theorem dX4_pinsOf_11 : decode cX4_pinsOf 11 = .ok (.getfield 7, 3) := by decide +kernel
theorem dX4_pinsOf_14 : decode cX4_pinsOf 14 = .ok (.iload_n 3, 1) := by decide +kernel
theorem dX4_pinsOf_15 : decode cX4_pinsOf 15 = .ok (.iaload, 1) := by decide +kernel
theorem dX4_pinsOf_16 : decode cX4_pinsOf 16 = .ok (.iload_n 1, 1) := by decide +kernel
theorem dX4_pinsOf_17 : decode cX4_pinsOf 17 = .ok (.if_icmp .ne 9, 3) := by decide +kernel
theorem dX4_pinsOf_20 : decode cX4_pinsOf 20 = .ok (.iload_n 2, 1) := by decide +kernel
theorem dX4_pinsOf_21 : decode cX4_pinsOf 21 = .ok (.iconst 1, 1) := by decide +kernel
theorem dX4_pinsOf_22 : decode cX4_pinsOf 22 = .ok (.iadd, 1) := by decide +kernel
theorem dX4_pinsOf_23 : decode cX4_pinsOf 23 = .ok (.goto 4, 3) := by decide +kernel
theorem dX4_pinsOf_26 : decode cX4_pinsOf 26 = .ok (.iload_n 2, 1) := by decide +kernel
theorem dX4_pinsOf_27 : decode cX4_pinsOf 27 = .ok (.istore_n 2, 1) := by decide +kernel
theorem dX4_pinsOf_28 : decode cX4_pinsOf 28 = .ok (.iinc 3 1, 3) := by decide +kernel
theorem dX4_pinsOf_31 : decode cX4_pinsOf 31 = .ok (.goto (-27), 3) := by decide +kernel
theorem dX4_pinsOf_34 : decode cX4_pinsOf 34 = .ok (.iload_n 2, 1) := by decide +kernel
theorem dX4_pinsOf_35 : decode cX4_pinsOf 35 = .ok (.ireturn, 1) := by decide +kernel
theorem dX4_lowest_0 : decode cX4_lowest 0 = .ok (.iconst 0, 1) := by decide +kernel
theorem dX4_lowest_1 : decode cX4_lowest 1 = .ok (.istore_n 1, 1) := by decide +kernel
theorem dX4_lowest_2 : decode cX4_lowest 2 = .ok (.iload_n 0, 1) := by decide +kernel
theorem dX4_lowest_3 : decode cX4_lowest 3 = .ok (.iload_n 1, 1) := by decide +kernel
theorem dX4_lowest_4 : decode cX4_lowest 4 = .ok (.ishr, 1) := by decide +kernel
theorem dX4_lowest_5 : decode cX4_lowest 5 = .ok (.iconst 1, 1) := by decide +kernel
theorem dX4_lowest_6 : decode cX4_lowest 6 = .ok (.iand, 1) := by decide +kernel
theorem dX4_lowest_7 : decode cX4_lowest 7 = .ok (.ifCond .ne 9, 3) := by decide +kernel
theorem dX4_lowest_10 : decode cX4_lowest 10 = .ok (.iinc 1 1, 3) := by decide +kernel
theorem dX4_lowest_13 : decode cX4_lowest 13 = .ok (.goto (-11), 3) := by decide +kernel
theorem dX4_lowest_16 : decode cX4_lowest 16 = .ok (.iload_n 1, 1) := by decide +kernel
theorem dX4_lowest_17 : decode cX4_lowest 17 = .ok (.ireturn, 1) := by decide +kernel
theorem dX4_highest_0 : decode cX4_highest 0 = .ok (.bipush 19, 2) := by decide +kernel
theorem dX4_highest_2 : decode cX4_highest 2 = .ok (.istore_n 1, 1) := by decide +kernel
theorem dX4_highest_3 : decode cX4_highest 3 = .ok (.iload_n 0, 1) := by decide +kernel
theorem dX4_highest_4 : decode cX4_highest 4 = .ok (.iload_n 1, 1) := by decide +kernel
theorem dX4_highest_5 : decode cX4_highest 5 = .ok (.ishr, 1) := by decide +kernel
theorem dX4_highest_6 : decode cX4_highest 6 = .ok (.iconst 1, 1) := by decide +kernel
theorem dX4_highest_7 : decode cX4_highest 7 = .ok (.iand, 1) := by decide +kernel
theorem dX4_highest_8 : decode cX4_highest 8 = .ok (.ifCond .ne 9, 3) := by decide +kernel
theorem dX4_highest_11 : decode cX4_highest 11 = .ok (.iinc 1 (-1), 3) := by decide +kernel
theorem dX4_highest_14 : decode cX4_highest 14 = .ok (.goto (-11), 3) := by decide +kernel
theorem dX4_highest_17 : decode cX4_highest 17 = .ok (.iload_n 1, 1) := by decide +kernel
theorem dX4_highest_18 : decode cX4_highest 18 = .ok (.ireturn, 1) := by decide +kernel
theorem dX4_sort_0 : decode cX4_sort 0 = .ok (.aload_n 0, 1) := by decide +kernel
theorem dX4_sort_1 : decode cX4_sort 1 = .ok (.iload_n 1, 1) := by decide +kernel
theorem dX4_sort_2 : decode cX4_sort 2 = .ok (.invokevirtual 74, 3) := by decide +kernel
theorem dX4_sort_5 : decode cX4_sort 5 = .ok (.istore_n 2, 1) := by decide +kernel
theorem dX4_sort_6 : decode cX4_sort 6 = .ok (.aload_n 0, 1) := by decide +kernel
theorem dX4_sort_7 : decode cX4_sort 7 = .ok (.iload_n 1, 1) := by decide +kernel
theorem dX4_sort_8 : decode cX4_sort 8 = .ok (.invokevirtual 78, 3) := by decide +kernel
theorem dX4_sort_11 : decode cX4_sort 11 = .ok (.istore_n 3, 1) := by decide +kernel
theorem dX4_sort_12 : decode cX4_sort 12 = .ok (.iload_n 2, 1) := by decide +kernel
theorem dX4_sort_13 : decode cX4_sort 13 = .ok (.iconst 2, 1) := by decide +kernel
theorem dX4_sort_14 : decode cX4_sort 14 = .ok (.if_icmp .ge 7, 3) := by decide +kernel
theorem dX4_sort_17 : decode cX4_sort 17 = .ok (.iload_n 2, 1) := by decide +kernel
theorem dX4_sort_18 : decode cX4_sort 18 = .ok (.goto 19, 3) := by decide +kernel
theorem dX4_sort_21 : decode cX4_sort 21 = .ok (.iload_n 3, 1) := by decide +kernel
theorem dX4_sort_22 : decode cX4_sort 22 = .ok (.invokestatic 81, 3) := by decide +kernel
theorem dX4_sort_25 : decode cX4_sort 25 = .ok (.iload_n 3, 1) := by decide +kernel
theorem dX4_sort_26 : decode cX4_sort 26 = .ok (.invokestatic 84, 3) := by decide +kernel
theorem dX4_sort_29 : decode cX4_sort 29 = .ok (.if_icmp .ne 7, 3) := by decide +kernel
theorem dX4_sort_32 : decode cX4_sort 32 = .ok (.iconst 2, 1) := by decide +kernel
theorem dX4_sort_33 : decode cX4_sort 33 = .ok (.goto 4, 3) := by decide +kernel
theorem dX4_sort_36 : decode cX4_sort 36 = .ok (.iconst 3, 1) := by decide +kernel
theorem dX4_sort_37 : decode cX4_sort 37 = .ok (.ireturn, 1) := by decide +kernel
theorem dX4_anySingle_0 : decode cX4_anySingle 0 = .ok (.iconst 0, 1) := by decide +kernel
theorem dX4_anySingle_1 : decode cX4_anySingle 1 = .ok (.istore_n 1, 1) := by decide +kernel
theorem dX4_anySingle_2 : decode cX4_anySingle 2 = .ok (.iconst 1, 1) := by decide +kernel
theorem dX4_anySingle_3 : decode cX4_anySingle 3 = .ok (.istore_n 2, 1) := by decide +kernel
theorem dX4_anySingle_4 : decode cX4_anySingle 4 = .ok (.iload_n 2, 1) := by decide +kernel
theorem dX4_anySingle_5 : decode cX4_anySingle 5 = .ok (.bipush 9, 2) := by decide +kernel
theorem dX4_anySingle_7 : decode cX4_anySingle 7 = .ok (.if_icmp .gt 28, 3) := by decide +kernel
theorem dX4_anySingle_10 : decode cX4_anySingle 10 = .ok (.iload_n 1, 1) := by decide +kernel
theorem dX4_anySingle_11 : decode cX4_anySingle 11 = .ok (.ifCond .ne 12, 3) := by decide +kernel
theorem dX4_anySingle_14 : decode cX4_anySingle 14 = .ok (.aload_n 0, 1) := by decide +kernel
theorem dX4_anySingle_15 : decode cX4_anySingle 15 = .ok (.iload_n 2, 1) := by decide +kernel
theorem dX4_anySingle_16 : decode cX4_anySingle 16 = .ok (.invokevirtual 87, 3) := by decide +kernel
theorem dX4_anySingle_19 : decode cX4_anySingle 19 = .ok (.iconst 1, 1) := by decide +kernel
theorem dX4_anySingle_20 : decode cX4_anySingle 20 = .ok (.if_icmp .ne 7, 3) := by decide +kernel
theorem dX4_anySingle_23 : decode cX4_anySingle 23 = .ok (.iconst 1, 1) := by decide +kernel
theorem dX4_anySingle_24 : decode cX4_anySingle 24 = .ok (.goto 4, 3) := by decide +kernel
theorem dX4_anySingle_27 : decode cX4_anySingle 27 = .ok (.iconst 0, 1) := by decide +kernel
theorem dX4_anySingle_28 : decode cX4_anySingle 28 = .ok (.istore_n 1, 1) := by decide +kernel
theorem dX4_anySingle_29 : decode cX4_anySingle 29 = .ok (.iinc 2 1, 3) := by decide +kernel
theorem dX4_anySingle_32 : decode cX4_anySingle 32 = .ok (.goto (-28), 3) := by decide +kernel
theorem dX4_anySingle_35 : decode cX4_anySingle 35 = .ok (.iload_n 1, 1) := by decide +kernel
theorem dX4_anySingle_36 : decode cX4_anySingle 36 = .ok (.ireturn, 1) := by decide +kernel
theorem dX4_segmentOf_0 : decode cX4_segmentOf 0 = .ok (.aload_n 0, 1) := by decide +kernel
theorem dX4_segmentOf_1 : decode cX4_segmentOf 1 = .ok (.getfield 13, 3) := by decide +kernel
theorem dX4_segmentOf_4 : decode cX4_segmentOf 4 = .ok (.aload_n 0, 1) := by decide +kernel
theorem dX4_segmentOf_5 : decode cX4_segmentOf 5 = .ok (.getfield 90, 3) := by decide +kernel
theorem dX4_segmentOf_8 : decode cX4_segmentOf 8 = .ok (.iload_n 1, 1) := by decide +kernel
theorem dX4_segmentOf_9 : decode cX4_segmentOf 9 = .ok (.iastore, 1) := by decide +kernel
theorem dX4_segmentOf_10 : decode cX4_segmentOf 10 = .ok (.aload_n 0, 1) := by decide +kernel
theorem dX4_segmentOf_11 : decode cX4_segmentOf 11 = .ok (.getfield 16, 3) := by decide +kernel
theorem dX4_segmentOf_14 : decode cX4_segmentOf 14 = .ok (.aload_n 0, 1) := by decide +kernel
theorem dX4_segmentOf_15 : decode cX4_segmentOf 15 = .ok (.getfield 90, 3) := by decide +kernel
theorem dX4_segmentOf_18 : decode cX4_segmentOf 18 = .ok (.iload_n 2, 1) := by decide +kernel
theorem dX4_segmentOf_19 : decode cX4_segmentOf 19 = .ok (.iastore, 1) := by decide +kernel
theorem dX4_segmentOf_20 : decode cX4_segmentOf 20 = .ok (.aload_n 0, 1) := by decide +kernel
theorem dX4_segmentOf_21 : decode cX4_segmentOf 21 = .ok (.getfield 19, 3) := by decide +kernel
theorem dX4_segmentOf_24 : decode cX4_segmentOf 24 = .ok (.aload_n 0, 1) := by decide +kernel
theorem dX4_segmentOf_25 : decode cX4_segmentOf 25 = .ok (.getfield 90, 3) := by decide +kernel
theorem dX4_segmentOf_28 : decode cX4_segmentOf 28 = .ok (.iload_n 3, 1) := by decide +kernel
theorem dX4_segmentOf_29 : decode cX4_segmentOf 29 = .ok (.iastore, 1) := by decide +kernel
theorem dX4_segmentOf_30 : decode cX4_segmentOf 30 = .ok (.aload_n 0, 1) := by decide +kernel
theorem dX4_segmentOf_31 : decode cX4_segmentOf 31 = .ok (.getfield 22, 3) := by decide +kernel
theorem dX4_segmentOf_34 : decode cX4_segmentOf 34 = .ok (.aload_n 0, 1) := by decide +kernel
theorem dX4_segmentOf_35 : decode cX4_segmentOf 35 = .ok (.getfield 90, 3) := by decide +kernel
theorem dX4_segmentOf_38 : decode cX4_segmentOf 38 = .ok (.iload 4, 2) := by decide +kernel
theorem dX4_segmentOf_40 : decode cX4_segmentOf 40 = .ok (.iastore, 1) := by decide +kernel
theorem dX4_segmentOf_41 : decode cX4_segmentOf 41 = .ok (.aload_n 0, 1) := by decide +kernel
theorem dX4_segmentOf_42 : decode cX4_segmentOf 42 = .ok (.dup, 1) := by decide +kernel
theorem dX4_segmentOf_43 : decode cX4_segmentOf 43 = .ok (.getfield 90, 3) := by decide +kernel
theorem dX4_segmentOf_46 : decode cX4_segmentOf 46 = .ok (.iconst 1, 1) := by decide +kernel
theorem dX4_segmentOf_47 : decode cX4_segmentOf 47 = .ok (.iadd, 1) := by decide +kernel
theorem dX4_segmentOf_48 : decode cX4_segmentOf 48 = .ok (.putfield 90, 3) := by decide +kernel
theorem dX4_segmentOf_51 : decode cX4_segmentOf 51 = .ok (.return_, 1) := by decide +kernel
theorem dX4_makeSegments_0 : decode cX4_makeSegments 0 = .ok (.aload_n 0, 1) := by decide +kernel
theorem dX4_makeSegments_1 : decode cX4_makeSegments 1 = .ok (.iconst 0, 1) := by decide +kernel
theorem dX4_makeSegments_2 : decode cX4_makeSegments 2 = .ok (.putfield 90, 3) := by decide +kernel
theorem dX4_makeSegments_5 : decode cX4_makeSegments 5 = .ok (.iconst 1, 1) := by decide +kernel
theorem dX4_makeSegments_6 : decode cX4_makeSegments 6 = .ok (.istore_n 2, 1) := by decide +kernel
theorem dX4_makeSegments_7 : decode cX4_makeSegments 7 = .ok (.iload_n 2, 1) := by decide +kernel
theorem dX4_makeSegments_8 : decode cX4_makeSegments 8 = .ok (.bipush 9, 2) := by decide +kernel
theorem dX4_makeSegments_10 : decode cX4_makeSegments 10 = .ok (.if_icmp .gt 111, 3) := by decide +kernel
theorem dX4_makeSegments_13 : decode cX4_makeSegments 13 = .ok (.aload_n 0, 1) := by decide +kernel
theorem dX4_makeSegments_14 : decode cX4_makeSegments 14 = .ok (.iload_n 2, 1) := by decide +kernel
theorem dX4_makeSegments_15 : decode cX4_makeSegments 15 = .ok (.invokevirtual 78, 3) := by decide +kernel
theorem dX4_makeSegments_18 : decode cX4_makeSegments 18 = .ok (.istore_n 3, 1) := by decide +kernel
theorem dX4_makeSegments_19 : decode cX4_makeSegments 19 = .ok (.aload_n 0, 1) := by decide +kernel
theorem dX4_makeSegments_20 : decode cX4_makeSegments 20 = .ok (.iload_n 2, 1) := by decide +kernel
theorem dX4_makeSegments_21 : decode cX4_makeSegments 21 = .ok (.invokevirtual 87, 3) := by decide +kernel
theorem dX4_makeSegments_24 : decode cX4_makeSegments 24 = .ok (.iconst 3, 1) := by decide +kernel
theorem dX4_makeSegments_25 : decode cX4_makeSegments 25 = .ok (.if_icmp .ne 21, 3) := by decide +kernel
theorem dX4_makeSegments_28 : decode cX4_makeSegments 28 = .ok (.iload_n 1, 1) := by decide +kernel
theorem dX4_makeSegments_29 : decode cX4_makeSegments 29 = .ok (.ifCond .ne 17, 3) := by decide +kernel
theorem dX4_makeSegments_32 : decode cX4_makeSegments 32 = .ok (.aload_n 0, 1) := by decide +kernel
theorem dX4_makeSegments_33 : decode cX4_makeSegments 33 = .ok (.iload_n 2, 1) := by decide +kernel
theorem dX4_makeSegments_34 : decode cX4_makeSegments 34 = .ok (.iload_n 3, 1) := by decide +kernel
theorem dX4_makeSegments_35 : decode cX4_makeSegments 35 = .ok (.invokestatic 81, 3) := by decide +kernel
theorem dX4_makeSegments_38 : decode cX4_makeSegments 38 = .ok (.iload_n 3, 1) := by decide +kernel
theorem dX4_makeSegments_39 : decode cX4_makeSegments 39 = .ok (.invokestatic 84, 3) := by decide +kernel
theorem dX4_makeSegments_42 : decode cX4_makeSegments 42 = .ok (.iload_n 3, 1) := by decide +kernel
theorem dX4_makeSegments_43 : decode cX4_makeSegments 43 = .ok (.invokevirtual 93, 3) := by decide +kernel
theorem dX4_makeSegments_46 : decode cX4_makeSegments 46 = .ok (.iconst (-1), 1) := by decide +kernel
theorem dX4_makeSegments_47 : decode cX4_makeSegments 47 = .ok (.istore 4, 2) := by decide +kernel
theorem dX4_makeSegments_49 : decode cX4_makeSegments 49 = .ok (.iconst 0, 1) := by decide +kernel
theorem dX4_makeSegments_50 : decode cX4_makeSegments 50 = .ok (.istore 5, 2) := by decide +kernel
theorem dX4_makeSegments_52 : decode cX4_makeSegments 52 = .ok (.iload 5, 2) := by decide +kernel
theorem dX4_makeSegments_54 : decode cX4_makeSegments 54 = .ok (.bipush 20, 2) := by decide +kernel
theorem dX4_makeSegments_56 : decode cX4_makeSegments 56 = .ok (.if_icmp .ge 59, 3) := by decide +kernel
theorem dX4_makeSegments_59 : decode cX4_makeSegments 59 = .ok (.aload_n 0, 1) := by decide +kernel
theorem dX4_makeSegments_60 : decode cX4_makeSegments 60 = .ok (.iload_n 2, 1) := by decide +kernel
theorem dX4_makeSegments_61 : decode cX4_makeSegments 61 = .ok (.invokevirtual 87, 3) := by decide +kernel
theorem dX4_makeSegments_64 : decode cX4_makeSegments 64 = .ok (.iconst 3, 1) := by decide +kernel
theorem dX4_makeSegments_65 : decode cX4_makeSegments 65 = .ok (.if_icmp .ne 50, 3) := by decide +kernel
theorem dX4_makeSegments_68 : decode cX4_makeSegments 68 = .ok (.iload_n 1, 1) := by decide +kernel
theorem dX4_makeSegments_69 : decode cX4_makeSegments 69 = .ok (.ifCond .eq 46, 3) := by decide +kernel
theorem dX4_makeSegments_72 : decode cX4_makeSegments 72 = .ok (.iload_n 3, 1) := by decide +kernel
theorem dX4_makeSegments_73 : decode cX4_makeSegments 73 = .ok (.iload 5, 2) := by decide +kernel
theorem dX4_makeSegments_75 : decode cX4_makeSegments 75 = .ok (.ishr, 1) := by decide +kernel
theorem dX4_makeSegments_76 : decode cX4_makeSegments 76 = .ok (.iconst 1, 1) := by decide +kernel
theorem dX4_makeSegments_77 : decode cX4_makeSegments 77 = .ok (.iand, 1) := by decide +kernel
theorem dX4_makeSegments_78 : decode cX4_makeSegments 78 = .ok (.iconst 1, 1) := by decide +kernel
theorem dX4_makeSegments_79 : decode cX4_makeSegments 79 = .ok (.if_icmp .ne 30, 3) := by decide +kernel
theorem dX4_makeSegments_82 : decode cX4_makeSegments 82 = .ok (.iload 4, 2) := by decide +kernel
theorem dX4_makeSegments_84 : decode cX4_makeSegments 84 = .ok (.ifCond .lt 21, 3) := by decide +kernel
theorem dX4_makeSegments_87 : decode cX4_makeSegments 87 = .ok (.aload_n 0, 1) := by decide +kernel
theorem dX4_makeSegments_88 : decode cX4_makeSegments 88 = .ok (.iload_n 2, 1) := by decide +kernel
theorem dX4_makeSegments_89 : decode cX4_makeSegments 89 = .ok (.iload 4, 2) := by decide +kernel
theorem dX4_makeSegments_91 : decode cX4_makeSegments 91 = .ok (.iload 5, 2) := by decide +kernel
theorem dX4_makeSegments_93 : decode cX4_makeSegments 93 = .ok (.iconst 1, 1) := by decide +kernel
theorem dX4_makeSegments_94 : decode cX4_makeSegments 94 = .ok (.iload 4, 2) := by decide +kernel
theorem dX4_makeSegments_96 : decode cX4_makeSegments 96 = .ok (.ishl, 1) := by decide +kernel
theorem dX4_makeSegments_97 : decode cX4_makeSegments 97 = .ok (.iconst 1, 1) := by decide +kernel
theorem dX4_makeSegments_98 : decode cX4_makeSegments 98 = .ok (.iload 5, 2) := by decide +kernel
theorem dX4_makeSegments_100 : decode cX4_makeSegments 100 = .ok (.ishl, 1) := by decide +kernel
theorem dX4_makeSegments_101 : decode cX4_makeSegments 101 = .ok (.ior, 1) := by decide +kernel
theorem dX4_makeSegments_102 : decode cX4_makeSegments 102 = .ok (.invokevirtual 93, 3) := by decide +kernel
theorem dX4_makeSegments_105 : decode cX4_makeSegments 105 = .ok (.iload 5, 2) := by decide +kernel
theorem dX4_makeSegments_107 : decode cX4_makeSegments 107 = .ok (.istore 4, 2) := by decide +kernel
theorem dX4_makeSegments_109 : decode cX4_makeSegments 109 = .ok (.iinc 5 1, 3) := by decide +kernel
theorem dX4_makeSegments_112 : decode cX4_makeSegments 112 = .ok (.goto (-60), 3) := by decide +kernel
theorem dX4_makeSegments_115 : decode cX4_makeSegments 115 = .ok (.iinc 2 1, 3) := by decide +kernel
theorem dX4_makeSegments_118 : decode cX4_makeSegments 118 = .ok (.goto (-111), 3) := by decide +kernel
theorem dX4_makeSegments_121 : decode cX4_makeSegments 121 = .ok (.return_, 1) := by decide +kernel
theorem dX4_touching_0 : decode cX4_touching 0 = .ok (.aload_n 0, 1) := by decide +kernel
theorem dX4_touching_1 : decode cX4_touching 1 = .ok (.getfield 13, 3) := by decide +kernel
theorem dX4_touching_4 : decode cX4_touching 4 = .ok (.iload_n 1, 1) := by decide +kernel
theorem dX4_touching_5 : decode cX4_touching 5 = .ok (.iaload, 1) := by decide +kernel
theorem dX4_touching_6 : decode cX4_touching 6 = .ok (.iload_n 3, 1) := by decide +kernel
theorem dX4_touching_7 : decode cX4_touching 7 = .ok (.if_icmp .ne 21, 3) := by decide +kernel
theorem dX4_touching_10 : decode cX4_touching 10 = .ok (.aload_n 0, 1) := by decide +kernel
theorem dX4_touching_11 : decode cX4_touching 11 = .ok (.getfield 22, 3) := by decide +kernel
theorem dX4_touching_14 : decode cX4_touching 14 = .ok (.iload_n 1, 1) := by decide +kernel
theorem dX4_touching_15 : decode cX4_touching 15 = .ok (.iaload, 1) := by decide +kernel
theorem dX4_touching_16 : decode cX4_touching 16 = .ok (.iload_n 2, 1) := by decide +kernel
theorem dX4_touching_17 : decode cX4_touching 17 = .ok (.ishr, 1) := by decide +kernel
theorem dX4_touching_18 : decode cX4_touching 18 = .ok (.iconst 1, 1) := by decide +kernel
theorem dX4_touching_19 : decode cX4_touching 19 = .ok (.iand, 1) := by decide +kernel
theorem dX4_touching_20 : decode cX4_touching 20 = .ok (.iconst 1, 1) := by decide +kernel
theorem dX4_touching_21 : decode cX4_touching 21 = .ok (.if_icmp .ne 7, 3) := by decide +kernel
theorem dX4_touching_24 : decode cX4_touching 24 = .ok (.iconst 1, 1) := by decide +kernel
theorem dX4_touching_25 : decode cX4_touching 25 = .ok (.goto 4, 3) := by decide +kernel
theorem dX4_touching_28 : decode cX4_touching 28 = .ok (.iconst 0, 1) := by decide +kernel
theorem dX4_touching_29 : decode cX4_touching 29 = .ok (.ireturn, 1) := by decide +kernel
theorem dX4_study_0 : decode cX4_study 0 = .ok (.aload_n 0, 1) := by decide +kernel
theorem dX4_study_1 : decode cX4_study 1 = .ok (.iload_n 1, 1) := by decide +kernel
theorem dX4_study_2 : decode cX4_study 2 = .ok (.invokevirtual 97, 3) := by decide +kernel
theorem dX4_study_5 : decode cX4_study 5 = .ok (.iconst 0, 1) := by decide +kernel
theorem dX4_study_6 : decode cX4_study 6 = .ok (.istore_n 2, 1) := by decide +kernel
theorem dX4_study_7 : decode cX4_study 7 = .ok (.iconst 0, 1) := by decide +kernel
theorem dX4_study_8 : decode cX4_study 8 = .ok (.istore_n 3, 1) := by decide +kernel
theorem dX4_study_9 : decode cX4_study 9 = .ok (.iload_n 3, 1) := by decide +kernel
theorem dX4_study_10 : decode cX4_study 10 = .ok (.aload_n 0, 1) := by decide +kernel
theorem dX4_study_11 : decode cX4_study 11 = .ok (.getfield 90, 3) := by decide +kernel
theorem dX4_study_14 : decode cX4_study 14 = .ok (.if_icmp .ge 172, 3) := by decide +kernel
theorem dX4_study_17 : decode cX4_study 17 = .ok (.aload_n 0, 1) := by decide +kernel
theorem dX4_study_18 : decode cX4_study 18 = .ok (.getfield 25, 3) := by decide +kernel
theorem dX4_study_21 : decode cX4_study 21 = .ok (.iload_n 3, 1) := by decide +kernel
theorem dX4_study_22 : decode cX4_study 22 = .ok (.lconst 0, 1) := by decide +kernel
theorem dX4_study_23 : decode cX4_study 23 = .ok (.lastore, 1) := by decide +kernel
theorem dX4_study_24 : decode cX4_study 24 = .ok (.iconst 0, 1) := by decide +kernel
theorem dX4_study_25 : decode cX4_study 25 = .ok (.istore 4, 2) := by decide +kernel
theorem dX4_study_27 : decode cX4_study 27 = .ok (.iload 4, 2) := by decide +kernel
theorem dX4_study_29 : decode cX4_study 29 = .ok (.aload_n 0, 1) := by decide +kernel
theorem dX4_study_30 : decode cX4_study 30 = .ok (.getfield 90, 3) := by decide +kernel
theorem dX4_study_33 : decode cX4_study 33 = .ok (.if_icmp .ge 147, 3) := by decide +kernel
theorem dX4_study_36 : decode cX4_study 36 = .ok (.iconst 0, 1) := by decide +kernel
theorem dX4_study_37 : decode cX4_study 37 = .ok (.istore 5, 2) := by decide +kernel
theorem dX4_study_39 : decode cX4_study 39 = .ok (.iconst 0, 1) := by decide +kernel
theorem dX4_study_40 : decode cX4_study 40 = .ok (.istore 6, 2) := by decide +kernel
theorem dX4_study_42 : decode cX4_study 42 = .ok (.iload 6, 2) := by decide +kernel
theorem dX4_study_44 : decode cX4_study 44 = .ok (.bipush 20, 2) := by decide +kernel
theorem dX4_study_46 : decode cX4_study 46 = .ok (.if_icmp .ge 84, 3) := by decide +kernel
theorem dX4_study_49 : decode cX4_study 49 = .ok (.aload_n 0, 1) := by decide +kernel
theorem dX4_study_50 : decode cX4_study 50 = .ok (.getfield 7, 3) := by decide +kernel
theorem dX4_study_53 : decode cX4_study 53 = .ok (.iload 6, 2) := by decide +kernel
theorem dX4_study_55 : decode cX4_study 55 = .ok (.iaload, 1) := by decide +kernel
theorem dX4_study_56 : decode cX4_study 56 = .ok (.istore 7, 2) := by decide +kernel
theorem dX4_study_58 : decode cX4_study 58 = .ok (.aload_n 0, 1) := by decide +kernel
theorem dX4_study_59 : decode cX4_study 59 = .ok (.getfield 7, 3) := by decide +kernel
theorem dX4_study_62 : decode cX4_study 62 = .ok (.bipush 20, 2) := by decide +kernel
theorem dX4_study_64 : decode cX4_study 64 = .ok (.iload 6, 2) := by decide +kernel
theorem dX4_study_66 : decode cX4_study 66 = .ok (.iadd, 1) := by decide +kernel
theorem dX4_study_67 : decode cX4_study 67 = .ok (.iaload, 1) := by decide +kernel
theorem dX4_study_68 : decode cX4_study 68 = .ok (.istore 8, 2) := by decide +kernel
theorem dX4_study_70 : decode cX4_study 70 = .ok (.iload 5, 2) := by decide +kernel
theorem dX4_study_72 : decode cX4_study 72 = .ok (.ifCond .ne 45, 3) := by decide +kernel
theorem dX4_study_75 : decode cX4_study 75 = .ok (.iload 7, 2) := by decide +kernel
theorem dX4_study_77 : decode cX4_study 77 = .ok (.ifCond .le 44, 3) := by decide +kernel
theorem dX4_study_80 : decode cX4_study 80 = .ok (.iload 8, 2) := by decide +kernel
theorem dX4_study_82 : decode cX4_study 82 = .ok (.ifCond .le 39, 3) := by decide +kernel
theorem dX4_study_85 : decode cX4_study 85 = .ok (.iload 7, 2) := by decide +kernel
theorem dX4_study_87 : decode cX4_study 87 = .ok (.iload 8, 2) := by decide +kernel
theorem dX4_study_89 : decode cX4_study 89 = .ok (.if_icmp .eq 32, 3) := by decide +kernel
theorem dX4_study_92 : decode cX4_study 92 = .ok (.aload_n 0, 1) := by decide +kernel
theorem dX4_study_93 : decode cX4_study 93 = .ok (.iload_n 3, 1) := by decide +kernel
theorem dX4_study_94 : decode cX4_study 94 = .ok (.iload 6, 2) := by decide +kernel
theorem dX4_study_96 : decode cX4_study 96 = .ok (.iload 7, 2) := by decide +kernel
theorem dX4_study_98 : decode cX4_study 98 = .ok (.invokevirtual 101, 3) := by decide +kernel
theorem dX4_study_101 : decode cX4_study 101 = .ok (.ifCond .eq 20, 3) := by decide +kernel
theorem dX4_study_104 : decode cX4_study 104 = .ok (.aload_n 0, 1) := by decide +kernel
theorem dX4_study_105 : decode cX4_study 105 = .ok (.iload 4, 2) := by decide +kernel
theorem dX4_study_107 : decode cX4_study 107 = .ok (.iload 6, 2) := by decide +kernel
theorem dX4_study_109 : decode cX4_study 109 = .ok (.iload 8, 2) := by decide +kernel
theorem dX4_study_111 : decode cX4_study 111 = .ok (.invokevirtual 101, 3) := by decide +kernel
theorem dX4_study_114 : decode cX4_study 114 = .ok (.ifCond .eq 7, 3) := by decide +kernel
theorem dX4_study_117 : decode cX4_study 117 = .ok (.iconst 1, 1) := by decide +kernel
theorem dX4_study_118 : decode cX4_study 118 = .ok (.goto 4, 3) := by decide +kernel
theorem dX4_study_121 : decode cX4_study 121 = .ok (.iconst 0, 1) := by decide +kernel
theorem dX4_study_122 : decode cX4_study 122 = .ok (.istore 5, 2) := by decide +kernel
theorem dX4_study_124 : decode cX4_study 124 = .ok (.iinc 6 1, 3) := by decide +kernel
theorem dX4_study_127 : decode cX4_study 127 = .ok (.goto (-85), 3) := by decide +kernel
theorem dX4_study_130 : decode cX4_study 130 = .ok (.aload_n 0, 1) := by decide +kernel
theorem dX4_study_131 : decode cX4_study 131 = .ok (.getfield 25, 3) := by decide +kernel
theorem dX4_study_134 : decode cX4_study 134 = .ok (.iload_n 3, 1) := by decide +kernel
end
section
theorem dX4_study_135 : decode cX4_study 135 = .ok (.iload 5, 2) := by decide +kernel
theorem dX4_study_137 : decode cX4_study 137 = .ok (.ifCond .eq 17, 3) := by decide +kernel
theorem dX4_study_140 : decode cX4_study 140 = .ok (.aload_n 0, 1) := by decide +kernel
theorem dX4_study_141 : decode cX4_study 141 = .ok (.getfield 25, 3) := by decide +kernel
theorem dX4_study_144 : decode cX4_study 144 = .ok (.iload_n 3, 1) := by decide +kernel
theorem dX4_study_145 : decode cX4_study 145 = .ok (.laload, 1) := by decide +kernel
theorem dX4_study_146 : decode cX4_study 146 = .ok (.lconst 1, 1) := by decide +kernel
theorem dX4_study_147 : decode cX4_study 147 = .ok (.iload 4, 2) := by decide +kernel
theorem dX4_study_149 : decode cX4_study 149 = .ok (.lshl, 1) := by decide +kernel
theorem dX4_study_150 : decode cX4_study 150 = .ok (.lor, 1) := by decide +kernel
theorem dX4_study_151 : decode cX4_study 151 = .ok (.goto 9, 3) := by decide +kernel
theorem dX4_study_154 : decode cX4_study 154 = .ok (.aload_n 0, 1) := by decide +kernel
theorem dX4_study_155 : decode cX4_study 155 = .ok (.getfield 25, 3) := by decide +kernel
theorem dX4_study_158 : decode cX4_study 158 = .ok (.iload_n 3, 1) := by decide +kernel
theorem dX4_study_159 : decode cX4_study 159 = .ok (.laload, 1) := by decide +kernel
theorem dX4_study_160 : decode cX4_study 160 = .ok (.lastore, 1) := by decide +kernel
theorem dX4_study_161 : decode cX4_study 161 = .ok (.iload 5, 2) := by decide +kernel
theorem dX4_study_163 : decode cX4_study 163 = .ok (.ifCond .eq 9, 3) := by decide +kernel
theorem dX4_study_166 : decode cX4_study 166 = .ok (.iload_n 2, 1) := by decide +kernel
theorem dX4_study_167 : decode cX4_study 167 = .ok (.iconst 1, 1) := by decide +kernel
theorem dX4_study_168 : decode cX4_study 168 = .ok (.iadd, 1) := by decide +kernel
theorem dX4_study_169 : decode cX4_study 169 = .ok (.goto 4, 3) := by decide +kernel
theorem dX4_study_172 : decode cX4_study 172 = .ok (.iload_n 2, 1) := by decide +kernel
theorem dX4_study_173 : decode cX4_study 173 = .ok (.istore_n 2, 1) := by decide +kernel
theorem dX4_study_174 : decode cX4_study 174 = .ok (.iinc 4 1, 3) := by decide +kernel
theorem dX4_study_177 : decode cX4_study 177 = .ok (.goto (-150), 3) := by decide +kernel
theorem dX4_study_180 : decode cX4_study 180 = .ok (.iinc 3 1, 3) := by decide +kernel
theorem dX4_study_183 : decode cX4_study 183 = .ok (.goto (-174), 3) := by decide +kernel
theorem dX4_study_186 : decode cX4_study 186 = .ok (.iload_n 2, 1) := by decide +kernel
theorem dX4_study_187 : decode cX4_study 187 = .ok (.ireturn, 1) := by decide +kernel
theorem dX4_has_0 : decode cX4_has 0 = .ok (.lload_n 0, 1) := by decide +kernel
theorem dX4_has_1 : decode cX4_has 1 = .ok (.iload_n 2, 1) := by decide +kernel
theorem dX4_has_2 : decode cX4_has 2 = .ok (.lshr, 1) := by decide +kernel
theorem dX4_has_3 : decode cX4_has 3 = .ok (.lconst 1, 1) := by decide +kernel
theorem dX4_has_4 : decode cX4_has 4 = .ok (.land, 1) := by decide +kernel
theorem dX4_has_5 : decode cX4_has 5 = .ok (.lconst 1, 1) := by decide +kernel
theorem dX4_has_6 : decode cX4_has 6 = .ok (.lcmp, 1) := by decide +kernel
theorem dX4_has_7 : decode cX4_has 7 = .ok (.ifCond .ne 7, 3) := by decide +kernel
theorem dX4_has_10 : decode cX4_has 10 = .ok (.iconst 1, 1) := by decide +kernel
theorem dX4_has_11 : decode cX4_has 11 = .ok (.goto 4, 3) := by decide +kernel
theorem dX4_has_14 : decode cX4_has 14 = .ok (.iconst 0, 1) := by decide +kernel
theorem dX4_has_15 : decode cX4_has 15 = .ok (.ireturn, 1) := by decide +kernel
theorem dX4_inRing_0 : decode cX4_inRing 0 = .ok (.iconst 0, 1) := by decide +kernel
theorem dX4_inRing_1 : decode cX4_inRing 1 = .ok (.istore_n 1, 1) := by decide +kernel
theorem dX4_inRing_2 : decode cX4_inRing 2 = .ok (.iload_n 1, 1) := by decide +kernel
theorem dX4_inRing_3 : decode cX4_inRing 3 = .ok (.aload_n 0, 1) := by decide +kernel
theorem dX4_inRing_4 : decode cX4_inRing 4 = .ok (.getfield 90, 3) := by decide +kernel
theorem dX4_inRing_7 : decode cX4_inRing 7 = .ok (.if_icmp .ge 21, 3) := by decide +kernel
theorem dX4_inRing_10 : decode cX4_inRing 10 = .ok (.aload_n 0, 1) := by decide +kernel
theorem dX4_inRing_11 : decode cX4_inRing 11 = .ok (.getfield 29, 3) := by decide +kernel
theorem dX4_inRing_14 : decode cX4_inRing 14 = .ok (.iload_n 1, 1) := by decide +kernel
theorem dX4_inRing_15 : decode cX4_inRing 15 = .ok (.aload_n 0, 1) := by decide +kernel
theorem dX4_inRing_16 : decode cX4_inRing 16 = .ok (.getfield 25, 3) := by decide +kernel
theorem dX4_inRing_19 : decode cX4_inRing 19 = .ok (.iload_n 1, 1) := by decide +kernel
theorem dX4_inRing_20 : decode cX4_inRing 20 = .ok (.laload, 1) := by decide +kernel
theorem dX4_inRing_21 : decode cX4_inRing 21 = .ok (.lastore, 1) := by decide +kernel
theorem dX4_inRing_22 : decode cX4_inRing 22 = .ok (.iinc 1 1, 3) := by decide +kernel
theorem dX4_inRing_25 : decode cX4_inRing 25 = .ok (.goto (-23), 3) := by decide +kernel
theorem dX4_inRing_28 : decode cX4_inRing 28 = .ok (.iconst 0, 1) := by decide +kernel
theorem dX4_inRing_29 : decode cX4_inRing 29 = .ok (.istore_n 1, 1) := by decide +kernel
theorem dX4_inRing_30 : decode cX4_inRing 30 = .ok (.iload_n 1, 1) := by decide +kernel
theorem dX4_inRing_31 : decode cX4_inRing 31 = .ok (.aload_n 0, 1) := by decide +kernel
theorem dX4_inRing_32 : decode cX4_inRing 32 = .ok (.getfield 90, 3) := by decide +kernel
theorem dX4_inRing_35 : decode cX4_inRing 35 = .ok (.if_icmp .ge 66, 3) := by decide +kernel
theorem dX4_inRing_38 : decode cX4_inRing 38 = .ok (.iconst 0, 1) := by decide +kernel
theorem dX4_inRing_39 : decode cX4_inRing 39 = .ok (.istore_n 2, 1) := by decide +kernel
theorem dX4_inRing_40 : decode cX4_inRing 40 = .ok (.iload_n 2, 1) := by decide +kernel
theorem dX4_inRing_41 : decode cX4_inRing 41 = .ok (.aload_n 0, 1) := by decide +kernel
theorem dX4_inRing_42 : decode cX4_inRing 42 = .ok (.getfield 90, 3) := by decide +kernel
theorem dX4_inRing_45 : decode cX4_inRing 45 = .ok (.if_icmp .ge 50, 3) := by decide +kernel
theorem dX4_inRing_48 : decode cX4_inRing 48 = .ok (.aload_n 0, 1) := by decide +kernel
theorem dX4_inRing_49 : decode cX4_inRing 49 = .ok (.getfield 29, 3) := by decide +kernel
theorem dX4_inRing_52 : decode cX4_inRing 52 = .ok (.iload_n 2, 1) := by decide +kernel
theorem dX4_inRing_53 : decode cX4_inRing 53 = .ok (.aload_n 0, 1) := by decide +kernel
theorem dX4_inRing_54 : decode cX4_inRing 54 = .ok (.getfield 29, 3) := by decide +kernel
theorem dX4_inRing_57 : decode cX4_inRing 57 = .ok (.iload_n 2, 1) := by decide +kernel
theorem dX4_inRing_58 : decode cX4_inRing 58 = .ok (.laload, 1) := by decide +kernel
theorem dX4_inRing_59 : decode cX4_inRing 59 = .ok (.iload_n 1, 1) := by decide +kernel
theorem dX4_inRing_60 : decode cX4_inRing 60 = .ok (.invokestatic 104, 3) := by decide +kernel
theorem dX4_inRing_63 : decode cX4_inRing 63 = .ok (.ifCond .eq 19, 3) := by decide +kernel
theorem dX4_inRing_66 : decode cX4_inRing 66 = .ok (.aload_n 0, 1) := by decide +kernel
theorem dX4_inRing_67 : decode cX4_inRing 67 = .ok (.getfield 29, 3) := by decide +kernel
theorem dX4_inRing_70 : decode cX4_inRing 70 = .ok (.iload_n 2, 1) := by decide +kernel
theorem dX4_inRing_71 : decode cX4_inRing 71 = .ok (.laload, 1) := by decide +kernel
theorem dX4_inRing_72 : decode cX4_inRing 72 = .ok (.aload_n 0, 1) := by decide +kernel
theorem dX4_inRing_73 : decode cX4_inRing 73 = .ok (.getfield 29, 3) := by decide +kernel
theorem dX4_inRing_76 : decode cX4_inRing 76 = .ok (.iload_n 1, 1) := by decide +kernel
theorem dX4_inRing_77 : decode cX4_inRing 77 = .ok (.laload, 1) := by decide +kernel
theorem dX4_inRing_78 : decode cX4_inRing 78 = .ok (.lor, 1) := by decide +kernel
theorem dX4_inRing_79 : decode cX4_inRing 79 = .ok (.goto 9, 3) := by decide +kernel
theorem dX4_inRing_82 : decode cX4_inRing 82 = .ok (.aload_n 0, 1) := by decide +kernel
theorem dX4_inRing_83 : decode cX4_inRing 83 = .ok (.getfield 29, 3) := by decide +kernel
theorem dX4_inRing_86 : decode cX4_inRing 86 = .ok (.iload_n 2, 1) := by decide +kernel
theorem dX4_inRing_87 : decode cX4_inRing 87 = .ok (.laload, 1) := by decide +kernel
theorem dX4_inRing_88 : decode cX4_inRing 88 = .ok (.lastore, 1) := by decide +kernel
theorem dX4_inRing_89 : decode cX4_inRing 89 = .ok (.iinc 2 1, 3) := by decide +kernel
theorem dX4_inRing_92 : decode cX4_inRing 92 = .ok (.goto (-52), 3) := by decide +kernel
theorem dX4_inRing_95 : decode cX4_inRing 95 = .ok (.iinc 1 1, 3) := by decide +kernel
theorem dX4_inRing_98 : decode cX4_inRing 98 = .ok (.goto (-68), 3) := by decide +kernel
theorem dX4_inRing_101 : decode cX4_inRing 101 = .ok (.iconst (-1), 1) := by decide +kernel
theorem dX4_inRing_102 : decode cX4_inRing 102 = .ok (.istore_n 1, 1) := by decide +kernel
theorem dX4_inRing_103 : decode cX4_inRing 103 = .ok (.aload_n 0, 1) := by decide +kernel
theorem dX4_inRing_104 : decode cX4_inRing 104 = .ok (.getfield 90, 3) := by decide +kernel
theorem dX4_inRing_107 : decode cX4_inRing 107 = .ok (.iconst 1, 1) := by decide +kernel
theorem dX4_inRing_108 : decode cX4_inRing 108 = .ok (.isub, 1) := by decide +kernel
theorem dX4_inRing_109 : decode cX4_inRing 109 = .ok (.istore_n 2, 1) := by decide +kernel
theorem dX4_inRing_110 : decode cX4_inRing 110 = .ok (.iload_n 2, 1) := by decide +kernel
theorem dX4_inRing_111 : decode cX4_inRing 111 = .ok (.ifCond .lt 28, 3) := by decide +kernel
theorem dX4_inRing_114 : decode cX4_inRing 114 = .ok (.aload_n 0, 1) := by decide +kernel
theorem dX4_inRing_115 : decode cX4_inRing 115 = .ok (.getfield 29, 3) := by decide +kernel
theorem dX4_inRing_118 : decode cX4_inRing 118 = .ok (.iload_n 2, 1) := by decide +kernel
theorem dX4_inRing_119 : decode cX4_inRing 119 = .ok (.laload, 1) := by decide +kernel
theorem dX4_inRing_120 : decode cX4_inRing 120 = .ok (.iload_n 2, 1) := by decide +kernel
theorem dX4_inRing_121 : decode cX4_inRing 121 = .ok (.invokestatic 104, 3) := by decide +kernel
theorem dX4_inRing_124 : decode cX4_inRing 124 = .ok (.ifCond .eq 7, 3) := by decide +kernel
theorem dX4_inRing_127 : decode cX4_inRing 127 = .ok (.iload_n 2, 1) := by decide +kernel
theorem dX4_inRing_128 : decode cX4_inRing 128 = .ok (.goto 4, 3) := by decide +kernel
theorem dX4_inRing_131 : decode cX4_inRing 131 = .ok (.iload_n 1, 1) := by decide +kernel
theorem dX4_inRing_132 : decode cX4_inRing 132 = .ok (.istore_n 1, 1) := by decide +kernel
theorem dX4_inRing_133 : decode cX4_inRing 133 = .ok (.iinc 2 (-1), 3) := by decide +kernel
theorem dX4_inRing_136 : decode cX4_inRing 136 = .ok (.goto (-26), 3) := by decide +kernel
theorem dX4_inRing_139 : decode cX4_inRing 139 = .ok (.iload_n 1, 1) := by decide +kernel
theorem dX4_inRing_140 : decode cX4_inRing 140 = .ok (.ireturn, 1) := by decide +kernel
theorem dX4_countSteps_0 : decode cX4_countSteps 0 = .ok (.iconst 0, 1) := by decide +kernel
theorem dX4_countSteps_1 : decode cX4_countSteps 1 = .ok (.istore_n 2, 1) := by decide +kernel
theorem dX4_countSteps_2 : decode cX4_countSteps 2 = .ok (.iload_n 2, 1) := by decide +kernel
theorem dX4_countSteps_3 : decode cX4_countSteps 3 = .ok (.aload_n 0, 1) := by decide +kernel
theorem dX4_countSteps_4 : decode cX4_countSteps 4 = .ok (.getfield 90, 3) := by decide +kernel
theorem dX4_countSteps_7 : decode cX4_countSteps 7 = .ok (.if_icmp .ge 26, 3) := by decide +kernel
theorem dX4_countSteps_10 : decode cX4_countSteps 10 = .ok (.aload_n 0, 1) := by decide +kernel
theorem dX4_countSteps_11 : decode cX4_countSteps 11 = .ok (.getfield 35, 3) := by decide +kernel
theorem dX4_countSteps_14 : decode cX4_countSteps 14 = .ok (.iload_n 2, 1) := by decide +kernel
theorem dX4_countSteps_15 : decode cX4_countSteps 15 = .ok (.iload_n 2, 1) := by decide +kernel
theorem dX4_countSteps_16 : decode cX4_countSteps 16 = .ok (.iload_n 1, 1) := by decide +kernel
theorem dX4_countSteps_17 : decode cX4_countSteps 17 = .ok (.if_icmp .ne 7, 3) := by decide +kernel
theorem dX4_countSteps_20 : decode cX4_countSteps 20 = .ok (.iconst 0, 1) := by decide +kernel
theorem dX4_countSteps_21 : decode cX4_countSteps 21 = .ok (.goto 5, 3) := by decide +kernel
theorem dX4_countSteps_24 : decode cX4_countSteps 24 = .ok (.bipush 100, 2) := by decide +kernel
theorem dX4_countSteps_26 : decode cX4_countSteps 26 = .ok (.iastore, 1) := by decide +kernel
theorem dX4_countSteps_27 : decode cX4_countSteps 27 = .ok (.iinc 2 1, 3) := by decide +kernel
theorem dX4_countSteps_30 : decode cX4_countSteps 30 = .ok (.goto (-28), 3) := by decide +kernel
theorem dX4_countSteps_33 : decode cX4_countSteps 33 = .ok (.iconst 0, 1) := by decide +kernel
theorem dX4_countSteps_34 : decode cX4_countSteps 34 = .ok (.istore_n 2, 1) := by decide +kernel
theorem dX4_countSteps_35 : decode cX4_countSteps 35 = .ok (.iload_n 2, 1) := by decide +kernel
theorem dX4_countSteps_36 : decode cX4_countSteps 36 = .ok (.aload_n 0, 1) := by decide +kernel
theorem dX4_countSteps_37 : decode cX4_countSteps 37 = .ok (.getfield 90, 3) := by decide +kernel
theorem dX4_countSteps_40 : decode cX4_countSteps 40 = .ok (.if_icmp .ge 111, 3) := by decide +kernel
theorem dX4_countSteps_43 : decode cX4_countSteps 43 = .ok (.iconst 0, 1) := by decide +kernel
theorem dX4_countSteps_44 : decode cX4_countSteps 44 = .ok (.istore_n 3, 1) := by decide +kernel
theorem dX4_countSteps_45 : decode cX4_countSteps 45 = .ok (.iload_n 3, 1) := by decide +kernel
theorem dX4_countSteps_46 : decode cX4_countSteps 46 = .ok (.aload_n 0, 1) := by decide +kernel
theorem dX4_countSteps_47 : decode cX4_countSteps 47 = .ok (.getfield 90, 3) := by decide +kernel
theorem dX4_countSteps_50 : decode cX4_countSteps 50 = .ok (.if_icmp .ge 95, 3) := by decide +kernel
theorem dX4_countSteps_53 : decode cX4_countSteps 53 = .ok (.iconst 0, 1) := by decide +kernel
theorem dX4_countSteps_54 : decode cX4_countSteps 54 = .ok (.istore 4, 2) := by decide +kernel
theorem dX4_countSteps_56 : decode cX4_countSteps 56 = .ok (.iload 4, 2) := by decide +kernel
theorem dX4_countSteps_58 : decode cX4_countSteps 58 = .ok (.aload_n 0, 1) := by decide +kernel
theorem dX4_countSteps_59 : decode cX4_countSteps 59 = .ok (.getfield 90, 3) := by decide +kernel
theorem dX4_countSteps_62 : decode cX4_countSteps 62 = .ok (.if_icmp .ge 77, 3) := by decide +kernel
theorem dX4_countSteps_65 : decode cX4_countSteps 65 = .ok (.aload_n 0, 1) := by decide +kernel
theorem dX4_countSteps_66 : decode cX4_countSteps 66 = .ok (.getfield 25, 3) := by decide +kernel
theorem dX4_countSteps_69 : decode cX4_countSteps 69 = .ok (.iload_n 3, 1) := by decide +kernel
theorem dX4_countSteps_70 : decode cX4_countSteps 70 = .ok (.laload, 1) := by decide +kernel
theorem dX4_countSteps_71 : decode cX4_countSteps 71 = .ok (.iload 4, 2) := by decide +kernel
theorem dX4_countSteps_73 : decode cX4_countSteps 73 = .ok (.invokestatic 104, 3) := by decide +kernel
theorem dX4_countSteps_76 : decode cX4_countSteps 76 = .ok (.ifCond .eq 25, 3) := by decide +kernel
theorem dX4_countSteps_79 : decode cX4_countSteps 79 = .ok (.aload_n 0, 1) := by decide +kernel
theorem dX4_countSteps_80 : decode cX4_countSteps 80 = .ok (.getfield 35, 3) := by decide +kernel
theorem dX4_countSteps_83 : decode cX4_countSteps 83 = .ok (.iload 4, 2) := by decide +kernel
theorem dX4_countSteps_85 : decode cX4_countSteps 85 = .ok (.iaload, 1) := by decide +kernel
theorem dX4_countSteps_86 : decode cX4_countSteps 86 = .ok (.iconst 1, 1) := by decide +kernel
theorem dX4_countSteps_87 : decode cX4_countSteps 87 = .ok (.iadd, 1) := by decide +kernel
theorem dX4_countSteps_88 : decode cX4_countSteps 88 = .ok (.aload_n 0, 1) := by decide +kernel
theorem dX4_countSteps_89 : decode cX4_countSteps 89 = .ok (.getfield 35, 3) := by decide +kernel
theorem dX4_countSteps_92 : decode cX4_countSteps 92 = .ok (.iload_n 3, 1) := by decide +kernel
theorem dX4_countSteps_93 : decode cX4_countSteps 93 = .ok (.iaload, 1) := by decide +kernel
theorem dX4_countSteps_94 : decode cX4_countSteps 94 = .ok (.if_icmp .ge 7, 3) := by decide +kernel
theorem dX4_countSteps_97 : decode cX4_countSteps 97 = .ok (.iconst 1, 1) := by decide +kernel
theorem dX4_countSteps_98 : decode cX4_countSteps 98 = .ok (.goto 4, 3) := by decide +kernel
theorem dX4_countSteps_101 : decode cX4_countSteps 101 = .ok (.iconst 0, 1) := by decide +kernel
theorem dX4_countSteps_102 : decode cX4_countSteps 102 = .ok (.istore 5, 2) := by decide +kernel
theorem dX4_countSteps_104 : decode cX4_countSteps 104 = .ok (.aload_n 0, 1) := by decide +kernel
theorem dX4_countSteps_105 : decode cX4_countSteps 105 = .ok (.getfield 35, 3) := by decide +kernel
theorem dX4_countSteps_108 : decode cX4_countSteps 108 = .ok (.iload_n 3, 1) := by decide +kernel
theorem dX4_countSteps_109 : decode cX4_countSteps 109 = .ok (.iload 5, 2) := by decide +kernel
theorem dX4_countSteps_111 : decode cX4_countSteps 111 = .ok (.ifCond .eq 15, 3) := by decide +kernel
theorem dX4_countSteps_114 : decode cX4_countSteps 114 = .ok (.aload_n 0, 1) := by decide +kernel
theorem dX4_countSteps_115 : decode cX4_countSteps 115 = .ok (.getfield 35, 3) := by decide +kernel
theorem dX4_countSteps_118 : decode cX4_countSteps 118 = .ok (.iload 4, 2) := by decide +kernel
theorem dX4_countSteps_120 : decode cX4_countSteps 120 = .ok (.iaload, 1) := by decide +kernel
theorem dX4_countSteps_121 : decode cX4_countSteps 121 = .ok (.iconst 1, 1) := by decide +kernel
theorem dX4_countSteps_122 : decode cX4_countSteps 122 = .ok (.iadd, 1) := by decide +kernel
theorem dX4_countSteps_123 : decode cX4_countSteps 123 = .ok (.goto 9, 3) := by decide +kernel
theorem dX4_countSteps_126 : decode cX4_countSteps 126 = .ok (.aload_n 0, 1) := by decide +kernel
theorem dX4_countSteps_127 : decode cX4_countSteps 127 = .ok (.getfield 35, 3) := by decide +kernel
theorem dX4_countSteps_130 : decode cX4_countSteps 130 = .ok (.iload_n 3, 1) := by decide +kernel
theorem dX4_countSteps_131 : decode cX4_countSteps 131 = .ok (.iaload, 1) := by decide +kernel
theorem dX4_countSteps_132 : decode cX4_countSteps 132 = .ok (.iastore, 1) := by decide +kernel
theorem dX4_countSteps_133 : decode cX4_countSteps 133 = .ok (.iinc 4 1, 3) := by decide +kernel
theorem dX4_countSteps_136 : decode cX4_countSteps 136 = .ok (.goto (-80), 3) := by decide +kernel
theorem dX4_countSteps_139 : decode cX4_countSteps 139 = .ok (.iinc 3 1, 3) := by decide +kernel
theorem dX4_countSteps_142 : decode cX4_countSteps 142 = .ok (.goto (-97), 3) := by decide +kernel
theorem dX4_countSteps_145 : decode cX4_countSteps 145 = .ok (.iinc 2 1, 3) := by decide +kernel
theorem dX4_countSteps_148 : decode cX4_countSteps 148 = .ok (.goto (-113), 3) := by decide +kernel
theorem dX4_countSteps_151 : decode cX4_countSteps 151 = .ok (.return_, 1) := by decide +kernel
theorem dX4_tellRing_0 : decode cX4_tellRing 0 = .ok (.aload_n 0, 1) := by decide +kernel
theorem dX4_tellRing_1 : decode cX4_tellRing 1 = .ok (.iload_n 1, 1) := by decide +kernel
theorem dX4_tellRing_2 : decode cX4_tellRing 2 = .ok (.invokevirtual 108, 3) := by decide +kernel
theorem dX4_tellRing_5 : decode cX4_tellRing 5 = .ok (.aload_n 0, 1) := by decide +kernel
theorem dX4_tellRing_6 : decode cX4_tellRing 6 = .ok (.iconst 0, 1) := by decide +kernel
theorem dX4_tellRing_7 : decode cX4_tellRing 7 = .ok (.putfield 112, 3) := by decide +kernel
theorem dX4_tellRing_10 : decode cX4_tellRing 10 = .ok (.iload_n 1, 1) := by decide +kernel
theorem dX4_tellRing_11 : decode cX4_tellRing 11 = .ok (.istore_n 2, 1) := by decide +kernel
theorem dX4_tellRing_12 : decode cX4_tellRing 12 = .ok (.iconst 1, 1) := by decide +kernel
theorem dX4_tellRing_13 : decode cX4_tellRing 13 = .ok (.istore_n 3, 1) := by decide +kernel
theorem dX4_tellRing_14 : decode cX4_tellRing 14 = .ok (.iload_n 3, 1) := by decide +kernel
theorem dX4_tellRing_15 : decode cX4_tellRing 15 = .ok (.ifCond .eq 118, 3) := by decide +kernel
theorem dX4_tellRing_18 : decode cX4_tellRing 18 = .ok (.aload_n 0, 1) := by decide +kernel
theorem dX4_tellRing_19 : decode cX4_tellRing 19 = .ok (.getfield 53, 3) := by decide +kernel
theorem dX4_tellRing_22 : decode cX4_tellRing 22 = .ok (.aload_n 0, 1) := by decide +kernel
theorem dX4_tellRing_23 : decode cX4_tellRing 23 = .ok (.getfield 112, 3) := by decide +kernel
theorem dX4_tellRing_26 : decode cX4_tellRing 26 = .ok (.iload_n 2, 1) := by decide +kernel
theorem dX4_tellRing_27 : decode cX4_tellRing 27 = .ok (.iastore, 1) := by decide +kernel
theorem dX4_tellRing_28 : decode cX4_tellRing 28 = .ok (.aload_n 0, 1) := by decide +kernel
theorem dX4_tellRing_29 : decode cX4_tellRing 29 = .ok (.dup, 1) := by decide +kernel
theorem dX4_tellRing_30 : decode cX4_tellRing 30 = .ok (.getfield 112, 3) := by decide +kernel
theorem dX4_tellRing_33 : decode cX4_tellRing 33 = .ok (.iconst 1, 1) := by decide +kernel
theorem dX4_tellRing_34 : decode cX4_tellRing 34 = .ok (.iadd, 1) := by decide +kernel
theorem dX4_tellRing_35 : decode cX4_tellRing 35 = .ok (.putfield 112, 3) := by decide +kernel
theorem dX4_tellRing_38 : decode cX4_tellRing 38 = .ok (.iconst (-1), 1) := by decide +kernel
theorem dX4_tellRing_39 : decode cX4_tellRing 39 = .ok (.istore 4, 2) := by decide +kernel
theorem dX4_tellRing_41 : decode cX4_tellRing 41 = .ok (.iconst 0, 1) := by decide +kernel
theorem dX4_tellRing_42 : decode cX4_tellRing 42 = .ok (.istore 5, 2) := by decide +kernel
theorem dX4_tellRing_44 : decode cX4_tellRing 44 = .ok (.iload 5, 2) := by decide +kernel
theorem dX4_tellRing_46 : decode cX4_tellRing 46 = .ok (.aload_n 0, 1) := by decide +kernel
theorem dX4_tellRing_47 : decode cX4_tellRing 47 = .ok (.getfield 90, 3) := by decide +kernel
theorem dX4_tellRing_50 : decode cX4_tellRing 50 = .ok (.if_icmp .ge 66, 3) := by decide +kernel
theorem dX4_tellRing_53 : decode cX4_tellRing 53 = .ok (.aload_n 0, 1) := by decide +kernel
theorem dX4_tellRing_54 : decode cX4_tellRing 54 = .ok (.getfield 25, 3) := by decide +kernel
theorem dX4_tellRing_57 : decode cX4_tellRing 57 = .ok (.iload_n 2, 1) := by decide +kernel
theorem dX4_tellRing_58 : decode cX4_tellRing 58 = .ok (.laload, 1) := by decide +kernel
theorem dX4_tellRing_59 : decode cX4_tellRing 59 = .ok (.iload 5, 2) := by decide +kernel
theorem dX4_tellRing_61 : decode cX4_tellRing 61 = .ok (.invokestatic 104, 3) := by decide +kernel
theorem dX4_tellRing_64 : decode cX4_tellRing 64 = .ok (.ifCond .eq 29, 3) := by decide +kernel
theorem dX4_tellRing_67 : decode cX4_tellRing 67 = .ok (.iload 4, 2) := by decide +kernel
theorem dX4_tellRing_69 : decode cX4_tellRing 69 = .ok (.ifCond .lt 20, 3) := by decide +kernel
theorem dX4_tellRing_72 : decode cX4_tellRing 72 = .ok (.aload_n 0, 1) := by decide +kernel
theorem dX4_tellRing_73 : decode cX4_tellRing 73 = .ok (.getfield 35, 3) := by decide +kernel
theorem dX4_tellRing_76 : decode cX4_tellRing 76 = .ok (.iload 5, 2) := by decide +kernel
theorem dX4_tellRing_78 : decode cX4_tellRing 78 = .ok (.iaload, 1) := by decide +kernel
theorem dX4_tellRing_79 : decode cX4_tellRing 79 = .ok (.aload_n 0, 1) := by decide +kernel
theorem dX4_tellRing_80 : decode cX4_tellRing 80 = .ok (.getfield 35, 3) := by decide +kernel
theorem dX4_tellRing_83 : decode cX4_tellRing 83 = .ok (.iload 4, 2) := by decide +kernel
theorem dX4_tellRing_85 : decode cX4_tellRing 85 = .ok (.iaload, 1) := by decide +kernel
theorem dX4_tellRing_86 : decode cX4_tellRing 86 = .ok (.if_icmp .ge 7, 3) := by decide +kernel
theorem dX4_tellRing_89 : decode cX4_tellRing 89 = .ok (.iconst 1, 1) := by decide +kernel
theorem dX4_tellRing_90 : decode cX4_tellRing 90 = .ok (.goto 4, 3) := by decide +kernel
theorem dX4_tellRing_93 : decode cX4_tellRing 93 = .ok (.iconst 0, 1) := by decide +kernel
theorem dX4_tellRing_94 : decode cX4_tellRing 94 = .ok (.istore 6, 2) := by decide +kernel
theorem dX4_tellRing_96 : decode cX4_tellRing 96 = .ok (.iload 6, 2) := by decide +kernel
theorem dX4_tellRing_98 : decode cX4_tellRing 98 = .ok (.ifCond .eq 8, 3) := by decide +kernel
theorem dX4_tellRing_101 : decode cX4_tellRing 101 = .ok (.iload 5, 2) := by decide +kernel
theorem dX4_tellRing_103 : decode cX4_tellRing 103 = .ok (.goto 5, 3) := by decide +kernel
theorem dX4_tellRing_106 : decode cX4_tellRing 106 = .ok (.iload 4, 2) := by decide +kernel
theorem dX4_tellRing_108 : decode cX4_tellRing 108 = .ok (.istore 4, 2) := by decide +kernel
theorem dX4_tellRing_110 : decode cX4_tellRing 110 = .ok (.iinc 5 1, 3) := by decide +kernel
theorem dX4_tellRing_113 : decode cX4_tellRing 113 = .ok (.goto (-69), 3) := by decide +kernel
theorem dX4_tellRing_116 : decode cX4_tellRing 116 = .ok (.iload 4, 2) := by decide +kernel
theorem dX4_tellRing_118 : decode cX4_tellRing 118 = .ok (.istore_n 2, 1) := by decide +kernel
theorem dX4_tellRing_119 : decode cX4_tellRing 119 = .ok (.iload_n 2, 1) := by decide +kernel
theorem dX4_tellRing_120 : decode cX4_tellRing 120 = .ok (.iload_n 1, 1) := by decide +kernel
theorem dX4_tellRing_121 : decode cX4_tellRing 121 = .ok (.if_icmp .eq 7, 3) := by decide +kernel
theorem dX4_tellRing_124 : decode cX4_tellRing 124 = .ok (.iconst 1, 1) := by decide +kernel
theorem dX4_tellRing_125 : decode cX4_tellRing 125 = .ok (.goto 4, 3) := by decide +kernel
theorem dX4_tellRing_128 : decode cX4_tellRing 128 = .ok (.iconst 0, 1) := by decide +kernel
theorem dX4_tellRing_129 : decode cX4_tellRing 129 = .ok (.istore_n 3, 1) := by decide +kernel
theorem dX4_tellRing_130 : decode cX4_tellRing 130 = .ok (.goto (-116), 3) := by decide +kernel
theorem dX4_tellRing_133 : decode cX4_tellRing 133 = .ok (.return_, 1) := by decide +kernel
theorem dX4_free_0 : decode cX4_free 0 = .ok (.aload_n 0, 1) := by decide +kernel
theorem dX4_free_1 : decode cX4_free 1 = .ok (.getfield 32, 3) := by decide +kernel
theorem dX4_free_4 : decode cX4_free 4 = .ok (.iload_n 1, 1) := by decide +kernel
theorem dX4_free_5 : decode cX4_free 5 = .ok (.iaload, 1) := by decide +kernel
theorem dX4_free_6 : decode cX4_free 6 = .ok (.ifCond .ge 7, 3) := by decide +kernel
theorem dX4_free_9 : decode cX4_free 9 = .ok (.iconst 1, 1) := by decide +kernel
theorem dX4_free_10 : decode cX4_free 10 = .ok (.goto 4, 3) := by decide +kernel
theorem dX4_free_13 : decode cX4_free 13 = .ok (.iconst 0, 1) := by decide +kernel
theorem dX4_free_14 : decode cX4_free 14 = .ok (.istore_n 3, 1) := by decide +kernel
theorem dX4_free_15 : decode cX4_free 15 = .ok (.iconst 0, 1) := by decide +kernel
theorem dX4_free_16 : decode cX4_free 16 = .ok (.istore 4, 2) := by decide +kernel
theorem dX4_free_18 : decode cX4_free 18 = .ok (.iload 4, 2) := by decide +kernel
theorem dX4_free_20 : decode cX4_free 20 = .ok (.aload_n 0, 1) := by decide +kernel
theorem dX4_free_21 : decode cX4_free 21 = .ok (.getfield 90, 3) := by decide +kernel
theorem dX4_free_24 : decode cX4_free 24 = .ok (.if_icmp .ge 50, 3) := by decide +kernel
theorem dX4_free_27 : decode cX4_free 27 = .ok (.iload_n 3, 1) := by decide +kernel
theorem dX4_free_28 : decode cX4_free 28 = .ok (.ifCond .eq 38, 3) := by decide +kernel
theorem dX4_free_31 : decode cX4_free 31 = .ok (.aload_n 0, 1) := by decide +kernel
theorem dX4_free_32 : decode cX4_free 32 = .ok (.getfield 25, 3) := by decide +kernel
theorem dX4_free_35 : decode cX4_free 35 = .ok (.iload 4, 2) := by decide +kernel
theorem dX4_free_37 : decode cX4_free 37 = .ok (.laload, 1) := by decide +kernel
theorem dX4_free_38 : decode cX4_free 38 = .ok (.iload_n 1, 1) := by decide +kernel
theorem dX4_free_39 : decode cX4_free 39 = .ok (.invokestatic 104, 3) := by decide +kernel
theorem dX4_free_42 : decode cX4_free 42 = .ok (.ifCond .eq 20, 3) := by decide +kernel
theorem dX4_free_45 : decode cX4_free 45 = .ok (.aload_n 0, 1) := by decide +kernel
theorem dX4_free_46 : decode cX4_free 46 = .ok (.getfield 32, 3) := by decide +kernel
theorem dX4_free_49 : decode cX4_free 49 = .ok (.iload 4, 2) := by decide +kernel
theorem dX4_free_51 : decode cX4_free 51 = .ok (.iaload, 1) := by decide +kernel
theorem dX4_free_52 : decode cX4_free 52 = .ok (.iconst 0, 1) := by decide +kernel
theorem dX4_free_53 : decode cX4_free 53 = .ok (.iload_n 2, 1) := by decide +kernel
theorem dX4_free_54 : decode cX4_free 54 = .ok (.iconst 1, 1) := by decide +kernel
theorem dX4_free_55 : decode cX4_free 55 = .ok (.isub, 1) := by decide +kernel
theorem dX4_free_56 : decode cX4_free 56 = .ok (.invokestatic 60, 3) := by decide +kernel
theorem dX4_free_59 : decode cX4_free 59 = .ok (.ifCond .eq 7, 3) := by decide +kernel
theorem dX4_free_62 : decode cX4_free 62 = .ok (.iconst 1, 1) := by decide +kernel
theorem dX4_free_63 : decode cX4_free 63 = .ok (.goto 4, 3) := by decide +kernel
theorem dX4_free_66 : decode cX4_free 66 = .ok (.iconst 0, 1) := by decide +kernel
theorem dX4_free_67 : decode cX4_free 67 = .ok (.istore_n 3, 1) := by decide +kernel
theorem dX4_free_68 : decode cX4_free 68 = .ok (.iinc 4 1, 3) := by decide +kernel
theorem dX4_free_71 : decode cX4_free 71 = .ok (.goto (-53), 3) := by decide +kernel
theorem dX4_free_74 : decode cX4_free 74 = .ok (.iload_n 3, 1) := by decide +kernel
theorem dX4_free_75 : decode cX4_free 75 = .ok (.ireturn, 1) := by decide +kernel
theorem dX4_nextFor_0 : decode cX4_nextFor 0 = .ok (.iconst (-1), 1) := by decide +kernel
theorem dX4_nextFor_1 : decode cX4_nextFor 1 = .ok (.istore 5, 2) := by decide +kernel
theorem dX4_nextFor_3 : decode cX4_nextFor 3 = .ok (.aload_n 0, 1) := by decide +kernel
theorem dX4_nextFor_4 : decode cX4_nextFor 4 = .ok (.getfield 90, 3) := by decide +kernel
theorem dX4_nextFor_7 : decode cX4_nextFor 7 = .ok (.iconst 1, 1) := by decide +kernel
theorem dX4_nextFor_8 : decode cX4_nextFor 8 = .ok (.isub, 1) := by decide +kernel
theorem dX4_nextFor_9 : decode cX4_nextFor 9 = .ok (.istore 6, 2) := by decide +kernel
theorem dX4_nextFor_11 : decode cX4_nextFor 11 = .ok (.iload 6, 2) := by decide +kernel
theorem dX4_nextFor_13 : decode cX4_nextFor 13 = .ok (.ifCond .lt 150, 3) := by decide +kernel
theorem dX4_nextFor_16 : decode cX4_nextFor 16 = .ok (.aload_n 0, 1) := by decide +kernel
theorem dX4_nextFor_17 : decode cX4_nextFor 17 = .ok (.getfield 16, 3) := by decide +kernel
theorem dX4_nextFor_20 : decode cX4_nextFor 20 = .ok (.iload 6, 2) := by decide +kernel
theorem dX4_nextFor_22 : decode cX4_nextFor 22 = .ok (.iaload, 1) := by decide +kernel
theorem dX4_nextFor_23 : decode cX4_nextFor 23 = .ok (.iload_n 3, 1) := by decide +kernel
theorem dX4_nextFor_24 : decode cX4_nextFor 24 = .ok (.if_icmp .gt 21, 3) := by decide +kernel
theorem dX4_nextFor_27 : decode cX4_nextFor 27 = .ok (.aload_n 0, 1) := by decide +kernel
theorem dX4_nextFor_28 : decode cX4_nextFor 28 = .ok (.getfield 16, 3) := by decide +kernel
theorem dX4_nextFor_31 : decode cX4_nextFor 31 = .ok (.iload 6, 2) := by decide +kernel
theorem dX4_nextFor_33 : decode cX4_nextFor 33 = .ok (.iaload, 1) := by decide +kernel
theorem dX4_nextFor_34 : decode cX4_nextFor 34 = .ok (.iload_n 3, 1) := by decide +kernel
theorem dX4_nextFor_35 : decode cX4_nextFor 35 = .ok (.if_icmp .ne 14, 3) := by decide +kernel
theorem dX4_nextFor_38 : decode cX4_nextFor 38 = .ok (.iload 6, 2) := by decide +kernel
theorem dX4_nextFor_40 : decode cX4_nextFor 40 = .ok (.iload 4, 2) := by decide +kernel
theorem dX4_nextFor_42 : decode cX4_nextFor 42 = .ok (.if_icmp .le 7, 3) := by decide +kernel
theorem dX4_nextFor_45 : decode cX4_nextFor 45 = .ok (.iconst 1, 1) := by decide +kernel
theorem dX4_nextFor_46 : decode cX4_nextFor 46 = .ok (.goto 4, 3) := by decide +kernel
theorem dX4_nextFor_49 : decode cX4_nextFor 49 = .ok (.iconst 0, 1) := by decide +kernel
theorem dX4_nextFor_50 : decode cX4_nextFor 50 = .ok (.istore 7, 2) := by decide +kernel
theorem dX4_nextFor_52 : decode cX4_nextFor 52 = .ok (.iload_n 2, 1) := by decide +kernel
theorem dX4_nextFor_53 : decode cX4_nextFor 53 = .ok (.ifCond .lt 51, 3) := by decide +kernel
theorem dX4_nextFor_56 : decode cX4_nextFor 56 = .ok (.aload_n 0, 1) := by decide +kernel
theorem dX4_nextFor_57 : decode cX4_nextFor 57 = .ok (.getfield 16, 3) := by decide +kernel
theorem dX4_nextFor_60 : decode cX4_nextFor 60 = .ok (.iload 6, 2) := by decide +kernel
theorem dX4_nextFor_62 : decode cX4_nextFor 62 = .ok (.iaload, 1) := by decide +kernel
theorem dX4_nextFor_63 : decode cX4_nextFor 63 = .ok (.aload_n 0, 1) := by decide +kernel
theorem dX4_nextFor_64 : decode cX4_nextFor 64 = .ok (.getfield 19, 3) := by decide +kernel
theorem dX4_nextFor_67 : decode cX4_nextFor 67 = .ok (.iload_n 2, 1) := by decide +kernel
theorem dX4_nextFor_68 : decode cX4_nextFor 68 = .ok (.iaload, 1) := by decide +kernel
theorem dX4_nextFor_69 : decode cX4_nextFor 69 = .ok (.if_icmp .gt 35, 3) := by decide +kernel
theorem dX4_nextFor_72 : decode cX4_nextFor 72 = .ok (.aload_n 0, 1) := by decide +kernel
theorem dX4_nextFor_73 : decode cX4_nextFor 73 = .ok (.getfield 16, 3) := by decide +kernel
theorem dX4_nextFor_76 : decode cX4_nextFor 76 = .ok (.iload 6, 2) := by decide +kernel
theorem dX4_nextFor_78 : decode cX4_nextFor 78 = .ok (.iaload, 1) := by decide +kernel
theorem dX4_nextFor_79 : decode cX4_nextFor 79 = .ok (.aload_n 0, 1) := by decide +kernel
theorem dX4_nextFor_80 : decode cX4_nextFor 80 = .ok (.getfield 19, 3) := by decide +kernel
theorem dX4_nextFor_83 : decode cX4_nextFor 83 = .ok (.iload_n 2, 1) := by decide +kernel
theorem dX4_nextFor_84 : decode cX4_nextFor 84 = .ok (.iaload, 1) := by decide +kernel
theorem dX4_nextFor_85 : decode cX4_nextFor 85 = .ok (.if_icmp .ne 23, 3) := by decide +kernel
theorem dX4_nextFor_88 : decode cX4_nextFor 88 = .ok (.aload_n 0, 1) := by decide +kernel
theorem dX4_nextFor_89 : decode cX4_nextFor 89 = .ok (.getfield 13, 3) := by decide +kernel
theorem dX4_nextFor_92 : decode cX4_nextFor 92 = .ok (.iload 6, 2) := by decide +kernel
theorem dX4_nextFor_94 : decode cX4_nextFor 94 = .ok (.iaload, 1) := by decide +kernel
theorem dX4_nextFor_95 : decode cX4_nextFor 95 = .ok (.aload_n 0, 1) := by decide +kernel
theorem dX4_nextFor_96 : decode cX4_nextFor 96 = .ok (.getfield 13, 3) := by decide +kernel
theorem dX4_nextFor_99 : decode cX4_nextFor 99 = .ok (.iload_n 2, 1) := by decide +kernel
theorem dX4_nextFor_100 : decode cX4_nextFor 100 = .ok (.iaload, 1) := by decide +kernel
theorem dX4_nextFor_101 : decode cX4_nextFor 101 = .ok (.if_icmp .ne 7, 3) := by decide +kernel
theorem dX4_nextFor_104 : decode cX4_nextFor 104 = .ok (.iconst 1, 1) := by decide +kernel
theorem dX4_nextFor_105 : decode cX4_nextFor 105 = .ok (.goto 4, 3) := by decide +kernel
theorem dX4_nextFor_108 : decode cX4_nextFor 108 = .ok (.iconst 0, 1) := by decide +kernel
theorem dX4_nextFor_109 : decode cX4_nextFor 109 = .ok (.istore 8, 2) := by decide +kernel
theorem dX4_nextFor_111 : decode cX4_nextFor 111 = .ok (.iload 7, 2) := by decide +kernel
theorem dX4_nextFor_113 : decode cX4_nextFor 113 = .ok (.ifCond .eq 44, 3) := by decide +kernel
theorem dX4_nextFor_116 : decode cX4_nextFor 116 = .ok (.iload 8, 2) := by decide +kernel
theorem dX4_nextFor_118 : decode cX4_nextFor 118 = .ok (.ifCond .eq 39, 3) := by decide +kernel
theorem dX4_nextFor_121 : decode cX4_nextFor 121 = .ok (.aload_n 0, 1) := by decide +kernel
theorem dX4_nextFor_122 : decode cX4_nextFor 122 = .ok (.iload 6, 2) := by decide +kernel
theorem dX4_nextFor_124 : decode cX4_nextFor 124 = .ok (.iload_n 1, 1) := by decide +kernel
theorem dX4_nextFor_125 : decode cX4_nextFor 125 = .ok (.invokevirtual 115, 3) := by decide +kernel
theorem dX4_nextFor_128 : decode cX4_nextFor 128 = .ok (.ifCond .eq 29, 3) := by decide +kernel
theorem dX4_nextFor_131 : decode cX4_nextFor 131 = .ok (.iload 5, 2) := by decide +kernel
theorem dX4_nextFor_133 : decode cX4_nextFor 133 = .ok (.ifCond .lt 20, 3) := by decide +kernel
theorem dX4_nextFor_136 : decode cX4_nextFor 136 = .ok (.aload_n 0, 1) := by decide +kernel
theorem dX4_nextFor_137 : decode cX4_nextFor 137 = .ok (.getfield 16, 3) := by decide +kernel
theorem dX4_nextFor_140 : decode cX4_nextFor 140 = .ok (.iload 6, 2) := by decide +kernel
theorem dX4_nextFor_142 : decode cX4_nextFor 142 = .ok (.iaload, 1) := by decide +kernel
theorem dX4_nextFor_143 : decode cX4_nextFor 143 = .ok (.aload_n 0, 1) := by decide +kernel
theorem dX4_nextFor_144 : decode cX4_nextFor 144 = .ok (.getfield 16, 3) := by decide +kernel
theorem dX4_nextFor_147 : decode cX4_nextFor 147 = .ok (.iload 5, 2) := by decide +kernel
theorem dX4_nextFor_149 : decode cX4_nextFor 149 = .ok (.iaload, 1) := by decide +kernel
theorem dX4_nextFor_150 : decode cX4_nextFor 150 = .ok (.if_icmp .gt 7, 3) := by decide +kernel
theorem dX4_nextFor_153 : decode cX4_nextFor 153 = .ok (.iload 6, 2) := by decide +kernel
theorem dX4_nextFor_155 : decode cX4_nextFor 155 = .ok (.istore 5, 2) := by decide +kernel
theorem dX4_nextFor_157 : decode cX4_nextFor 157 = .ok (.iinc 6 (-1), 3) := by decide +kernel
theorem dX4_nextFor_160 : decode cX4_nextFor 160 = .ok (.goto (-149), 3) := by decide +kernel
theorem dX4_nextFor_163 : decode cX4_nextFor 163 = .ok (.iload 5, 2) := by decide +kernel
theorem dX4_nextFor_165 : decode cX4_nextFor 165 = .ok (.ireturn, 1) := by decide +kernel
theorem dX4_fill_0 : decode cX4_fill 0 = .ok (.iconst 0, 1) := by decide +kernel
theorem dX4_fill_1 : decode cX4_fill 1 = .ok (.istore_n 1, 1) := by decide +kernel
theorem dX4_fill_2 : decode cX4_fill 2 = .ok (.iconst 0, 1) := by decide +kernel
theorem dX4_fill_3 : decode cX4_fill 3 = .ok (.istore_n 2, 1) := by decide +kernel
theorem dX4_fill_4 : decode cX4_fill 4 = .ok (.iconst 0, 1) := by decide +kernel
theorem dX4_fill_5 : decode cX4_fill 5 = .ok (.istore_n 3, 1) := by decide +kernel
theorem dX4_fill_6 : decode cX4_fill 6 = .ok (.iload_n 3, 1) := by decide +kernel
theorem dX4_fill_7 : decode cX4_fill 7 = .ok (.aload_n 0, 1) := by decide +kernel
theorem dX4_fill_8 : decode cX4_fill 8 = .ok (.getfield 90, 3) := by decide +kernel
theorem dX4_fill_11 : decode cX4_fill 11 = .ok (.if_icmp .ge 16, 3) := by decide +kernel
theorem dX4_fill_14 : decode cX4_fill 14 = .ok (.aload_n 0, 1) := by decide +kernel
theorem dX4_fill_15 : decode cX4_fill 15 = .ok (.getfield 32, 3) := by decide +kernel
theorem dX4_fill_18 : decode cX4_fill 18 = .ok (.iload_n 3, 1) := by decide +kernel
theorem dX4_fill_19 : decode cX4_fill 19 = .ok (.iconst (-1), 1) := by decide +kernel
theorem dX4_fill_20 : decode cX4_fill 20 = .ok (.iastore, 1) := by decide +kernel
theorem dX4_fill_21 : decode cX4_fill 21 = .ok (.iinc 3 1, 3) := by decide +kernel
theorem dX4_fill_24 : decode cX4_fill 24 = .ok (.goto (-18), 3) := by decide +kernel
theorem dX4_fill_27 : decode cX4_fill 27 = .ok (.iload_n 1, 1) := by decide +kernel
theorem dX4_fill_28 : decode cX4_fill 28 = .ok (.aload_n 0, 1) := by decide +kernel
theorem dX4_fill_29 : decode cX4_fill 29 = .ok (.getfield 90, 3) := by decide +kernel
theorem dX4_fill_32 : decode cX4_fill 32 = .ok (.if_icmp .ge 58, 3) := by decide +kernel
theorem dX4_fill_35 : decode cX4_fill 35 = .ok (.iconst (-1), 1) := by decide +kernel
theorem dX4_fill_36 : decode cX4_fill 36 = .ok (.istore_n 3, 1) := by decide +kernel
theorem dX4_fill_37 : decode cX4_fill 37 = .ok (.aload_n 0, 1) := by decide +kernel
theorem dX4_fill_38 : decode cX4_fill 38 = .ok (.iload_n 2, 1) := by decide +kernel
theorem dX4_fill_39 : decode cX4_fill 39 = .ok (.iconst (-1), 1) := by decide +kernel
theorem dX4_fill_40 : decode cX4_fill 40 = .ok (.iconst (-1), 1) := by decide +kernel
theorem dX4_fill_41 : decode cX4_fill 41 = .ok (.iconst (-1), 1) := by decide +kernel
theorem dX4_fill_42 : decode cX4_fill 42 = .ok (.invokevirtual 119, 3) := by decide +kernel
theorem dX4_fill_45 : decode cX4_fill 45 = .ok (.istore 4, 2) := by decide +kernel
theorem dX4_fill_47 : decode cX4_fill 47 = .ok (.iload 4, 2) := by decide +kernel
theorem dX4_fill_49 : decode cX4_fill 49 = .ok (.ifCond .lt 35, 3) := by decide +kernel
theorem dX4_fill_52 : decode cX4_fill 52 = .ok (.aload_n 0, 1) := by decide +kernel
theorem dX4_fill_53 : decode cX4_fill 53 = .ok (.getfield 32, 3) := by decide +kernel
theorem dX4_fill_56 : decode cX4_fill 56 = .ok (.iload 4, 2) := by decide +kernel
theorem dX4_fill_58 : decode cX4_fill 58 = .ok (.iload_n 2, 1) := by decide +kernel
theorem dX4_fill_59 : decode cX4_fill 59 = .ok (.iastore, 1) := by decide +kernel
theorem dX4_fill_60 : decode cX4_fill 60 = .ok (.iinc 1 1, 3) := by decide +kernel
theorem dX4_fill_63 : decode cX4_fill 63 = .ok (.iload 4, 2) := by decide +kernel
theorem dX4_fill_65 : decode cX4_fill 65 = .ok (.istore_n 3, 1) := by decide +kernel
theorem dX4_fill_66 : decode cX4_fill 66 = .ok (.aload_n 0, 1) := by decide +kernel
theorem dX4_fill_67 : decode cX4_fill 67 = .ok (.iload_n 2, 1) := by decide +kernel
theorem dX4_fill_68 : decode cX4_fill 68 = .ok (.iload_n 3, 1) := by decide +kernel
theorem dX4_fill_69 : decode cX4_fill 69 = .ok (.aload_n 0, 1) := by decide +kernel
theorem dX4_fill_70 : decode cX4_fill 70 = .ok (.getfield 16, 3) := by decide +kernel
theorem dX4_fill_73 : decode cX4_fill 73 = .ok (.iload_n 3, 1) := by decide +kernel
theorem dX4_fill_74 : decode cX4_fill 74 = .ok (.iaload, 1) := by decide +kernel
theorem dX4_fill_75 : decode cX4_fill 75 = .ok (.iload_n 3, 1) := by decide +kernel
theorem dX4_fill_76 : decode cX4_fill 76 = .ok (.invokevirtual 119, 3) := by decide +kernel
theorem dX4_fill_79 : decode cX4_fill 79 = .ok (.istore 4, 2) := by decide +kernel
theorem dX4_fill_81 : decode cX4_fill 81 = .ok (.goto (-34), 3) := by decide +kernel
theorem dX4_fill_84 : decode cX4_fill 84 = .ok (.iinc 2 1, 3) := by decide +kernel
theorem dX4_fill_87 : decode cX4_fill 87 = .ok (.goto (-60), 3) := by decide +kernel
theorem dX4_fill_90 : decode cX4_fill 90 = .ok (.iload_n 2, 1) := by decide +kernel
theorem dX4_fill_91 : decode cX4_fill 91 = .ok (.ireturn, 1) := by decide +kernel
theorem dX4_layNow_0 : decode cX4_layNow 0 = .ok (.aload_n 0, 1) := by decide +kernel
theorem dX4_layNow_1 : decode cX4_layNow 1 = .ok (.aload_n 0, 1) := by decide +kernel
theorem dX4_layNow_2 : decode cX4_layNow 2 = .ok (.invokevirtual 123, 3) := by decide +kernel
theorem dX4_layNow_5 : decode cX4_layNow 5 = .ok (.putfield 71, 3) := by decide +kernel
theorem dX4_layNow_8 : decode cX4_layNow 8 = .ok (.aload_n 0, 1) := by decide +kernel
theorem dX4_layNow_9 : decode cX4_layNow 9 = .ok (.iconst 1, 1) := by decide +kernel
theorem dX4_layNow_10 : decode cX4_layNow 10 = .ok (.putfield 64, 3) := by decide +kernel
theorem dX4_layNow_13 : decode cX4_layNow 13 = .ok (.aload_n 0, 1) := by decide +kernel
theorem dX4_layNow_14 : decode cX4_layNow 14 = .ok (.aload_n 0, 1) := by decide +kernel
theorem dX4_layNow_15 : decode cX4_layNow 15 = .ok (.getfield 90, 3) := by decide +kernel
theorem dX4_layNow_18 : decode cX4_layNow 18 = .ok (.putfield 68, 3) := by decide +kernel
theorem dX4_layNow_21 : decode cX4_layNow 21 = .ok (.iconst 0, 1) := by decide +kernel
theorem dX4_layNow_22 : decode cX4_layNow 22 = .ok (.istore_n 1, 1) := by decide +kernel
theorem dX4_layNow_23 : decode cX4_layNow 23 = .ok (.iload_n 1, 1) := by decide +kernel
theorem dX4_layNow_24 : decode cX4_layNow 24 = .ok (.aload_n 0, 1) := by decide +kernel
theorem dX4_layNow_25 : decode cX4_layNow 25 = .ok (.getfield 90, 3) := by decide +kernel
theorem dX4_layNow_28 : decode cX4_layNow 28 = .ok (.if_icmp .ge 69, 3) := by decide +kernel
theorem dX4_layNow_31 : decode cX4_layNow 31 = .ok (.aload_n 0, 1) := by decide +kernel
theorem dX4_layNow_32 : decode cX4_layNow 32 = .ok (.getfield 38, 3) := by decide +kernel
theorem dX4_layNow_35 : decode cX4_layNow 35 = .ok (.iload_n 1, 1) := by decide +kernel
theorem dX4_layNow_36 : decode cX4_layNow 36 = .ok (.aload_n 0, 1) := by decide +kernel
theorem dX4_layNow_37 : decode cX4_layNow 37 = .ok (.getfield 13, 3) := by decide +kernel
theorem dX4_layNow_40 : decode cX4_layNow 40 = .ok (.iload_n 1, 1) := by decide +kernel
theorem dX4_layNow_41 : decode cX4_layNow 41 = .ok (.iaload, 1) := by decide +kernel
theorem dX4_layNow_42 : decode cX4_layNow 42 = .ok (.iastore, 1) := by decide +kernel
theorem dX4_layNow_43 : decode cX4_layNow 43 = .ok (.aload_n 0, 1) := by decide +kernel
theorem dX4_layNow_44 : decode cX4_layNow 44 = .ok (.getfield 41, 3) := by decide +kernel
theorem dX4_layNow_47 : decode cX4_layNow 47 = .ok (.iload_n 1, 1) := by decide +kernel
theorem dX4_layNow_48 : decode cX4_layNow 48 = .ok (.aload_n 0, 1) := by decide +kernel
theorem dX4_layNow_49 : decode cX4_layNow 49 = .ok (.getfield 16, 3) := by decide +kernel
theorem dX4_layNow_52 : decode cX4_layNow 52 = .ok (.iload_n 1, 1) := by decide +kernel
theorem dX4_layNow_53 : decode cX4_layNow 53 = .ok (.iaload, 1) := by decide +kernel
theorem dX4_layNow_54 : decode cX4_layNow 54 = .ok (.iastore, 1) := by decide +kernel
theorem dX4_layNow_55 : decode cX4_layNow 55 = .ok (.aload_n 0, 1) := by decide +kernel
theorem dX4_layNow_56 : decode cX4_layNow 56 = .ok (.getfield 44, 3) := by decide +kernel
theorem dX4_layNow_59 : decode cX4_layNow 59 = .ok (.iload_n 1, 1) := by decide +kernel
theorem dX4_layNow_60 : decode cX4_layNow 60 = .ok (.aload_n 0, 1) := by decide +kernel
theorem dX4_layNow_61 : decode cX4_layNow 61 = .ok (.getfield 19, 3) := by decide +kernel
theorem dX4_layNow_64 : decode cX4_layNow 64 = .ok (.iload_n 1, 1) := by decide +kernel
theorem dX4_layNow_65 : decode cX4_layNow 65 = .ok (.iaload, 1) := by decide +kernel
theorem dX4_layNow_66 : decode cX4_layNow 66 = .ok (.iastore, 1) := by decide +kernel
theorem dX4_layNow_67 : decode cX4_layNow 67 = .ok (.aload_n 0, 1) := by decide +kernel
theorem dX4_layNow_68 : decode cX4_layNow 68 = .ok (.getfield 47, 3) := by decide +kernel
theorem dX4_layNow_71 : decode cX4_layNow 71 = .ok (.iload_n 1, 1) := by decide +kernel
theorem dX4_layNow_72 : decode cX4_layNow 72 = .ok (.aload_n 0, 1) := by decide +kernel
theorem dX4_layNow_73 : decode cX4_layNow 73 = .ok (.getfield 22, 3) := by decide +kernel
theorem dX4_layNow_76 : decode cX4_layNow 76 = .ok (.iload_n 1, 1) := by decide +kernel
theorem dX4_layNow_77 : decode cX4_layNow 77 = .ok (.iaload, 1) := by decide +kernel
theorem dX4_layNow_78 : decode cX4_layNow 78 = .ok (.iastore, 1) := by decide +kernel
theorem dX4_layNow_79 : decode cX4_layNow 79 = .ok (.aload_n 0, 1) := by decide +kernel
theorem dX4_layNow_80 : decode cX4_layNow 80 = .ok (.getfield 50, 3) := by decide +kernel
theorem dX4_layNow_83 : decode cX4_layNow 83 = .ok (.iload_n 1, 1) := by decide +kernel
theorem dX4_layNow_84 : decode cX4_layNow 84 = .ok (.aload_n 0, 1) := by decide +kernel
theorem dX4_layNow_85 : decode cX4_layNow 85 = .ok (.getfield 32, 3) := by decide +kernel
theorem dX4_layNow_88 : decode cX4_layNow 88 = .ok (.iload_n 1, 1) := by decide +kernel
theorem dX4_layNow_89 : decode cX4_layNow 89 = .ok (.iaload, 1) := by decide +kernel
theorem dX4_layNow_90 : decode cX4_layNow 90 = .ok (.iastore, 1) := by decide +kernel
theorem dX4_layNow_91 : decode cX4_layNow 91 = .ok (.iinc 1 1, 3) := by decide +kernel
theorem dX4_layNow_94 : decode cX4_layNow 94 = .ok (.goto (-71), 3) := by decide +kernel
theorem dX4_layNow_97 : decode cX4_layNow 97 = .ok (.aload_n 0, 1) := by decide +kernel
theorem dX4_layNow_98 : decode cX4_layNow 98 = .ok (.dup, 1) := by decide +kernel
theorem dX4_layNow_99 : decode cX4_layNow 99 = .ok (.getfield 127, 3) := by decide +kernel
theorem dX4_layNow_102 : decode cX4_layNow 102 = .ok (.iconst 1, 1) := by decide +kernel
theorem dX4_layNow_103 : decode cX4_layNow 103 = .ok (.iadd, 1) := by decide +kernel
theorem dX4_layNow_104 : decode cX4_layNow 104 = .ok (.putfield 127, 3) := by decide +kernel
theorem dX4_layNow_107 : decode cX4_layNow 107 = .ok (.aload_n 0, 1) := by decide +kernel
theorem dX4_layNow_108 : decode cX4_layNow 108 = .ok (.getfield 71, 3) := by decide +kernel
theorem dX4_layNow_111 : decode cX4_layNow 111 = .ok (.ireturn, 1) := by decide +kernel
theorem dX4_noRing_0 : decode cX4_noRing 0 = .ok (.aload_n 0, 1) := by decide +kernel
theorem dX4_noRing_1 : decode cX4_noRing 1 = .ok (.invokevirtual 130, 3) := by decide +kernel
theorem dX4_noRing_4 : decode cX4_noRing 4 = .ok (.istore_n 1, 1) := by decide +kernel
theorem dX4_noRing_5 : decode cX4_noRing 5 = .ok (.iload_n 1, 1) := by decide +kernel
theorem dX4_noRing_6 : decode cX4_noRing 6 = .ok (.ifCond .ge 5, 3) := by decide +kernel
theorem dX4_noRing_9 : decode cX4_noRing 9 = .ok (.iconst 1, 1) := by decide +kernel
theorem dX4_noRing_10 : decode cX4_noRing 10 = .ok (.ireturn, 1) := by decide +kernel
theorem dX4_noRing_11 : decode cX4_noRing 11 = .ok (.aload_n 0, 1) := by decide +kernel
theorem dX4_noRing_12 : decode cX4_noRing 12 = .ok (.iload_n 1, 1) := by decide +kernel
theorem dX4_noRing_13 : decode cX4_noRing 13 = .ok (.invokevirtual 133, 3) := by decide +kernel
theorem dX4_noRing_16 : decode cX4_noRing 16 = .ok (.aload_n 0, 1) := by decide +kernel
theorem dX4_noRing_17 : decode cX4_noRing 17 = .ok (.dup, 1) := by decide +kernel
theorem dX4_noRing_18 : decode cX4_noRing 18 = .ok (.getfield 136, 3) := by decide +kernel
theorem dX4_noRing_21 : decode cX4_noRing 21 = .ok (.iconst 1, 1) := by decide +kernel
theorem dX4_noRing_22 : decode cX4_noRing 22 = .ok (.iadd, 1) := by decide +kernel
theorem dX4_noRing_23 : decode cX4_noRing 23 = .ok (.putfield 136, 3) := by decide +kernel
theorem dX4_noRing_26 : decode cX4_noRing 26 = .ok (.aload_n 0, 1) := by decide +kernel
theorem dX4_noRing_27 : decode cX4_noRing 27 = .ok (.iconst 2, 1) := by decide +kernel
theorem dX4_noRing_28 : decode cX4_noRing 28 = .ok (.putfield 56, 3) := by decide +kernel
theorem dX4_noRing_31 : decode cX4_noRing 31 = .ok (.iconst 0, 1) := by decide +kernel
theorem dX4_noRing_32 : decode cX4_noRing 32 = .ok (.ireturn, 1) := by decide +kernel
theorem dX4_lay_0 : decode cX4_lay 0 = .ok (.aload_n 0, 1) := by decide +kernel
theorem dX4_lay_1 : decode cX4_lay 1 = .ok (.iconst 0, 1) := by decide +kernel
theorem dX4_lay_2 : decode cX4_lay 2 = .ok (.putfield 56, 3) := by decide +kernel
theorem dX4_lay_5 : decode cX4_lay 5 = .ok (.aload_n 0, 1) := by decide +kernel
theorem dX4_lay_6 : decode cX4_lay 6 = .ok (.invokevirtual 139, 3) := by decide +kernel
theorem dX4_lay_9 : decode cX4_lay 9 = .ok (.ifCond .eq 9, 3) := by decide +kernel
theorem dX4_lay_12 : decode cX4_lay 12 = .ok (.aload_n 0, 1) := by decide +kernel
theorem dX4_lay_13 : decode cX4_lay 13 = .ok (.iconst 1, 1) := by decide +kernel
theorem dX4_lay_14 : decode cX4_lay 14 = .ok (.invokevirtual 143, 3) := by decide +kernel
theorem dX4_lay_17 : decode cX4_lay 17 = .ok (.ireturn, 1) := by decide +kernel
theorem dX4_lay_18 : decode cX4_lay 18 = .ok (.aload_n 0, 1) := by decide +kernel
theorem dX4_lay_19 : decode cX4_lay 19 = .ok (.iload_n 1, 1) := by decide +kernel
theorem dX4_lay_20 : decode cX4_lay 20 = .ok (.invokevirtual 146, 3) := by decide +kernel
theorem dX4_lay_23 : decode cX4_lay 23 = .ok (.istore_n 2, 1) := by decide +kernel
theorem dX4_lay_24 : decode cX4_lay 24 = .ok (.aload_n 0, 1) := by decide +kernel
theorem dX4_lay_25 : decode cX4_lay 25 = .ok (.invokevirtual 150, 3) := by decide +kernel
theorem dX4_lay_28 : decode cX4_lay 28 = .ok (.ifCond .eq 10, 3) := by decide +kernel
theorem dX4_lay_31 : decode cX4_lay 31 = .ok (.aload_n 0, 1) := by decide +kernel
theorem dX4_lay_32 : decode cX4_lay 32 = .ok (.invokevirtual 153, 3) := by decide +kernel
theorem dX4_lay_35 : decode cX4_lay 35 = .ok (.goto 4, 3) := by decide +kernel
theorem dX4_lay_38 : decode cX4_lay 38 = .ok (.iconst 0, 1) := by decide +kernel
theorem dX4_lay_39 : decode cX4_lay 39 = .ok (.ireturn, 1) := by decide +kernel
theorem dX4_layAny_0 : decode cX4_layAny 0 = .ok (.aload_n 0, 1) := by decide +kernel
theorem dX4_layAny_1 : decode cX4_layAny 1 = .ok (.iconst 0, 1) := by decide +kernel
theorem dX4_layAny_2 : decode cX4_layAny 2 = .ok (.putfield 56, 3) := by decide +kernel
theorem dX4_layAny_5 : decode cX4_layAny 5 = .ok (.aload_n 0, 1) := by decide +kernel
theorem dX4_layAny_6 : decode cX4_layAny 6 = .ok (.invokevirtual 139, 3) := by decide +kernel
theorem dX4_layAny_9 : decode cX4_layAny 9 = .ok (.ifCond .eq 9, 3) := by decide +kernel
theorem dX4_layAny_12 : decode cX4_layAny 12 = .ok (.aload_n 0, 1) := by decide +kernel
theorem dX4_layAny_13 : decode cX4_layAny 13 = .ok (.iconst 1, 1) := by decide +kernel
theorem dX4_layAny_14 : decode cX4_layAny 14 = .ok (.invokevirtual 143, 3) := by decide +kernel
theorem dX4_layAny_17 : decode cX4_layAny 17 = .ok (.ireturn, 1) := by decide +kernel
theorem dX4_layAny_18 : decode cX4_layAny 18 = .ok (.aload_n 0, 1) := by decide +kernel
theorem dX4_layAny_19 : decode cX4_layAny 19 = .ok (.iconst 0, 1) := by decide +kernel
theorem dX4_layAny_20 : decode cX4_layAny 20 = .ok (.invokevirtual 146, 3) := by decide +kernel
theorem dX4_layAny_23 : decode cX4_layAny 23 = .ok (.istore_n 1, 1) := by decide +kernel
theorem dX4_layAny_24 : decode cX4_layAny 24 = .ok (.aload_n 0, 1) := by decide +kernel
theorem dX4_layAny_25 : decode cX4_layAny 25 = .ok (.invokevirtual 130, 3) := by decide +kernel
theorem dX4_layAny_28 : decode cX4_layAny 28 = .ok (.ifCond .ge 8, 3) := by decide +kernel
theorem dX4_layAny_31 : decode cX4_layAny 31 = .ok (.aload_n 0, 1) := by decide +kernel
theorem dX4_layAny_32 : decode cX4_layAny 32 = .ok (.invokevirtual 153, 3) := by decide +kernel
theorem dX4_layAny_35 : decode cX4_layAny 35 = .ok (.ireturn, 1) := by decide +kernel
theorem dX4_layAny_36 : decode cX4_layAny 36 = .ok (.aload_n 0, 1) := by decide +kernel
theorem dX4_layAny_37 : decode cX4_layAny 37 = .ok (.iconst 1, 1) := by decide +kernel
theorem dX4_layAny_38 : decode cX4_layAny 38 = .ok (.invokevirtual 146, 3) := by decide +kernel
theorem dX4_layAny_41 : decode cX4_layAny 41 = .ok (.istore_n 1, 1) := by decide +kernel
theorem dX4_layAny_42 : decode cX4_layAny 42 = .ok (.aload_n 0, 1) := by decide +kernel
theorem dX4_layAny_43 : decode cX4_layAny 43 = .ok (.invokevirtual 150, 3) := by decide +kernel
theorem dX4_layAny_46 : decode cX4_layAny 46 = .ok (.ifCond .eq 14, 3) := by decide +kernel
theorem dX4_layAny_49 : decode cX4_layAny 49 = .ok (.sipush 1000, 3) := by decide +kernel
theorem dX4_layAny_52 : decode cX4_layAny 52 = .ok (.aload_n 0, 1) := by decide +kernel
theorem dX4_layAny_53 : decode cX4_layAny 53 = .ok (.invokevirtual 153, 3) := by decide +kernel
theorem dX4_layAny_56 : decode cX4_layAny 56 = .ok (.iadd, 1) := by decide +kernel
theorem dX4_layAny_57 : decode cX4_layAny 57 = .ok (.goto 4, 3) := by decide +kernel
theorem dX4_layAny_60 : decode cX4_layAny 60 = .ok (.iconst 0, 1) := by decide +kernel
theorem dX4_layAny_61 : decode cX4_layAny 61 = .ok (.ireturn, 1) := by decide +kernel
theorem dX4_ring_0 : decode cX4_ring 0 = .ok (.aload_n 0, 1) := by decide +kernel
theorem dX4_ring_1 : decode cX4_ring 1 = .ok (.iconst 0, 1) := by decide +kernel
theorem dX4_ring_2 : decode cX4_ring 2 = .ok (.putfield 56, 3) := by decide +kernel
theorem dX4_ring_5 : decode cX4_ring 5 = .ok (.iload_n 1, 1) := by decide +kernel
theorem dX4_ring_6 : decode cX4_ring 6 = .ok (.iconst 0, 1) := by decide +kernel
theorem dX4_ring_7 : decode cX4_ring 7 = .ok (.aload_n 0, 1) := by decide +kernel
theorem dX4_ring_8 : decode cX4_ring 8 = .ok (.getfield 112, 3) := by decide +kernel
theorem dX4_ring_11 : decode cX4_ring 11 = .ok (.iconst 1, 1) := by decide +kernel
theorem dX4_ring_12 : decode cX4_ring 12 = .ok (.isub, 1) := by decide +kernel
theorem dX4_ring_13 : decode cX4_ring 13 = .ok (.invokestatic 60, 3) := by decide +kernel
theorem dX4_ring_16 : decode cX4_ring 16 = .ok (.ifCond .eq 12, 3) := by decide +kernel
theorem dX4_ring_19 : decode cX4_ring 19 = .ok (.aload_n 0, 1) := by decide +kernel
theorem dX4_ring_20 : decode cX4_ring 20 = .ok (.getfield 53, 3) := by decide +kernel
theorem dX4_ring_23 : decode cX4_ring 23 = .ok (.iload_n 1, 1) := by decide +kernel
theorem dX4_ring_24 : decode cX4_ring 24 = .ok (.iaload, 1) := by decide +kernel
theorem dX4_ring_25 : decode cX4_ring 25 = .ok (.goto 4, 3) := by decide +kernel
theorem dX4_ring_28 : decode cX4_ring 28 = .ok (.iconst (-1), 1) := by decide +kernel
theorem dX4_ring_29 : decode cX4_ring 29 = .ok (.ireturn, 1) := by decide +kernel
theorem dX4_segment_0 : decode cX4_segment 0 = .ok (.aload_n 0, 1) := by decide +kernel
theorem dX4_segment_1 : decode cX4_segment 1 = .ok (.iload_n 1, 1) := by decide +kernel
theorem dX4_segment_2 : decode cX4_segment 2 = .ok (.iconst 0, 1) := by decide +kernel
theorem dX4_segment_3 : decode cX4_segment 3 = .ok (.aload_n 0, 1) := by decide +kernel
theorem dX4_segment_4 : decode cX4_segment 4 = .ok (.getfield 68, 3) := by decide +kernel
theorem dX4_segment_7 : decode cX4_segment 7 = .ok (.iconst 1, 1) := by decide +kernel
theorem dX4_segment_8 : decode cX4_segment 8 = .ok (.isub, 1) := by decide +kernel
theorem dX4_segment_9 : decode cX4_segment 9 = .ok (.invokestatic 60, 3) := by decide +kernel
theorem dX4_segment_12 : decode cX4_segment 12 = .ok (.ifCond .eq 16, 3) := by decide +kernel
theorem dX4_segment_15 : decode cX4_segment 15 = .ok (.iload_n 2, 1) := by decide +kernel
theorem dX4_segment_16 : decode cX4_segment 16 = .ok (.iconst 0, 1) := by decide +kernel
theorem dX4_segment_17 : decode cX4_segment 17 = .ok (.iconst 3, 1) := by decide +kernel
theorem dX4_segment_18 : decode cX4_segment 18 = .ok (.invokestatic 60, 3) := by decide +kernel
theorem dX4_segment_21 : decode cX4_segment 21 = .ok (.ifCond .eq 7, 3) := by decide +kernel
theorem dX4_segment_24 : decode cX4_segment 24 = .ok (.iconst 0, 1) := by decide +kernel
theorem dX4_segment_25 : decode cX4_segment 25 = .ok (.goto 4, 3) := by decide +kernel
theorem dX4_segment_28 : decode cX4_segment 28 = .ok (.iconst 1, 1) := by decide +kernel
theorem dX4_segment_29 : decode cX4_segment 29 = .ok (.putfield 56, 3) := by decide +kernel
theorem dX4_segment_32 : decode cX4_segment 32 = .ok (.aload_n 0, 1) := by decide +kernel
theorem dX4_segment_33 : decode cX4_segment 33 = .ok (.getfield 56, 3) := by decide +kernel
theorem dX4_segment_36 : decode cX4_segment 36 = .ok (.ifCond .le 5, 3) := by decide +kernel
theorem dX4_segment_39 : decode cX4_segment 39 = .ok (.iconst 0, 1) := by decide +kernel
theorem dX4_segment_40 : decode cX4_segment 40 = .ok (.ireturn, 1) := by decide +kernel
theorem dX4_segment_41 : decode cX4_segment 41 = .ok (.iload_n 2, 1) := by decide +kernel
theorem dX4_segment_42 : decode cX4_segment 42 = .ok (.ifCond .ne 12, 3) := by decide +kernel
theorem dX4_segment_45 : decode cX4_segment 45 = .ok (.aload_n 0, 1) := by decide +kernel
theorem dX4_segment_46 : decode cX4_segment 46 = .ok (.getfield 38, 3) := by decide +kernel
theorem dX4_segment_49 : decode cX4_segment 49 = .ok (.iload_n 1, 1) := by decide +kernel
theorem dX4_segment_50 : decode cX4_segment 50 = .ok (.iaload, 1) := by decide +kernel
theorem dX4_segment_51 : decode cX4_segment 51 = .ok (.goto 37, 3) := by decide +kernel
theorem dX4_segment_54 : decode cX4_segment 54 = .ok (.iload_n 2, 1) := by decide +kernel
theorem dX4_segment_55 : decode cX4_segment 55 = .ok (.iconst 1, 1) := by decide +kernel
theorem dX4_segment_56 : decode cX4_segment 56 = .ok (.if_icmp .ne 12, 3) := by decide +kernel
theorem dX4_segment_59 : decode cX4_segment 59 = .ok (.aload_n 0, 1) := by decide +kernel
theorem dX4_segment_60 : decode cX4_segment 60 = .ok (.getfield 41, 3) := by decide +kernel
theorem dX4_segment_63 : decode cX4_segment 63 = .ok (.iload_n 1, 1) := by decide +kernel
theorem dX4_segment_64 : decode cX4_segment 64 = .ok (.iaload, 1) := by decide +kernel
theorem dX4_segment_65 : decode cX4_segment 65 = .ok (.goto 23, 3) := by decide +kernel
theorem dX4_segment_68 : decode cX4_segment 68 = .ok (.iload_n 2, 1) := by decide +kernel
theorem dX4_segment_69 : decode cX4_segment 69 = .ok (.iconst 2, 1) := by decide +kernel
theorem dX4_segment_70 : decode cX4_segment 70 = .ok (.if_icmp .ne 12, 3) := by decide +kernel
theorem dX4_segment_73 : decode cX4_segment 73 = .ok (.aload_n 0, 1) := by decide +kernel
theorem dX4_segment_74 : decode cX4_segment 74 = .ok (.getfield 44, 3) := by decide +kernel
theorem dX4_segment_77 : decode cX4_segment 77 = .ok (.iload_n 1, 1) := by decide +kernel
theorem dX4_segment_78 : decode cX4_segment 78 = .ok (.iaload, 1) := by decide +kernel
theorem dX4_segment_79 : decode cX4_segment 79 = .ok (.goto 9, 3) := by decide +kernel
theorem dX4_segment_82 : decode cX4_segment 82 = .ok (.aload_n 0, 1) := by decide +kernel
theorem dX4_segment_83 : decode cX4_segment 83 = .ok (.getfield 50, 3) := by decide +kernel
theorem dX4_segment_86 : decode cX4_segment 86 = .ok (.iload_n 1, 1) := by decide +kernel
theorem dX4_segment_87 : decode cX4_segment 87 = .ok (.iaload, 1) := by decide +kernel
theorem dX4_segment_88 : decode cX4_segment 88 = .ok (.ireturn, 1) := by decide +kernel
theorem dX4_out_0 : decode cX4_out 0 = .ok (.aload_n 0, 1) := by decide +kernel
theorem dX4_out_1 : decode cX4_out 1 = .ok (.iload_n 1, 1) := by decide +kernel
theorem dX4_out_2 : decode cX4_out 2 = .ok (.ifCond .eq 7, 3) := by decide +kernel
theorem dX4_out_5 : decode cX4_out 5 = .ok (.iconst 0, 1) := by decide +kernel
theorem dX4_out_6 : decode cX4_out 6 = .ok (.goto 4, 3) := by decide +kernel
theorem dX4_out_9 : decode cX4_out 9 = .ok (.iconst 1, 1) := by decide +kernel
theorem dX4_out_10 : decode cX4_out 10 = .ok (.putfield 56, 3) := by decide +kernel
theorem dX4_out_13 : decode cX4_out 13 = .ok (.iload_n 1, 1) := by decide +kernel
theorem dX4_out_14 : decode cX4_out 14 = .ok (.ifCond .ne 7, 3) := by decide +kernel
theorem dX4_out_17 : decode cX4_out 17 = .ok (.iconst 1, 1) := by decide +kernel
theorem dX4_out_18 : decode cX4_out 18 = .ok (.goto 4, 3) := by decide +kernel
theorem dX4_out_21 : decode cX4_out 21 = .ok (.iconst 0, 1) := by decide +kernel
theorem dX4_out_22 : decode cX4_out 22 = .ok (.ireturn, 1) := by decide +kernel
theorem dX4_levelAt_0 : decode cX4_levelAt 0 = .ok (.iconst 0, 1) := by decide +kernel
theorem dX4_levelAt_1 : decode cX4_levelAt 1 = .ok (.istore_n 3, 1) := by decide +kernel
theorem dX4_levelAt_2 : decode cX4_levelAt 2 = .ok (.iconst 0, 1) := by decide +kernel
theorem dX4_levelAt_3 : decode cX4_levelAt 3 = .ok (.istore 4, 2) := by decide +kernel
theorem dX4_levelAt_5 : decode cX4_levelAt 5 = .ok (.iload 4, 2) := by decide +kernel
theorem dX4_levelAt_7 : decode cX4_levelAt 7 = .ok (.aload_n 0, 1) := by decide +kernel
theorem dX4_levelAt_8 : decode cX4_levelAt 8 = .ok (.getfield 68, 3) := by decide +kernel
theorem dX4_levelAt_11 : decode cX4_levelAt 11 = .ok (.if_icmp .ge 53, 3) := by decide +kernel
theorem dX4_levelAt_14 : decode cX4_levelAt 14 = .ok (.aload_n 0, 1) := by decide +kernel
theorem dX4_levelAt_15 : decode cX4_levelAt 15 = .ok (.getfield 50, 3) := by decide +kernel
theorem dX4_levelAt_18 : decode cX4_levelAt 18 = .ok (.iload 4, 2) := by decide +kernel
theorem dX4_levelAt_20 : decode cX4_levelAt 20 = .ok (.iaload, 1) := by decide +kernel
theorem dX4_levelAt_21 : decode cX4_levelAt 21 = .ok (.iload_n 1, 1) := by decide +kernel
theorem dX4_levelAt_22 : decode cX4_levelAt 22 = .ok (.if_icmp .ne 34, 3) := by decide +kernel
theorem dX4_levelAt_25 : decode cX4_levelAt 25 = .ok (.iload_n 2, 1) := by decide +kernel
theorem dX4_levelAt_26 : decode cX4_levelAt 26 = .ok (.aload_n 0, 1) := by decide +kernel
theorem dX4_levelAt_27 : decode cX4_levelAt 27 = .ok (.getfield 41, 3) := by decide +kernel
theorem dX4_levelAt_30 : decode cX4_levelAt 30 = .ok (.iload 4, 2) := by decide +kernel
theorem dX4_levelAt_32 : decode cX4_levelAt 32 = .ok (.iaload, 1) := by decide +kernel
theorem dX4_levelAt_33 : decode cX4_levelAt 33 = .ok (.aload_n 0, 1) := by decide +kernel
theorem dX4_levelAt_34 : decode cX4_levelAt 34 = .ok (.getfield 44, 3) := by decide +kernel
theorem dX4_levelAt_37 : decode cX4_levelAt 37 = .ok (.iload 4, 2) := by decide +kernel
theorem dX4_levelAt_39 : decode cX4_levelAt 39 = .ok (.iaload, 1) := by decide +kernel
theorem dX4_levelAt_40 : decode cX4_levelAt 40 = .ok (.invokestatic 60, 3) := by decide +kernel
theorem dX4_levelAt_43 : decode cX4_levelAt 43 = .ok (.ifCond .eq 13, 3) := by decide +kernel
theorem dX4_levelAt_46 : decode cX4_levelAt 46 = .ok (.aload_n 0, 1) := by decide +kernel
theorem dX4_levelAt_47 : decode cX4_levelAt 47 = .ok (.getfield 38, 3) := by decide +kernel
theorem dX4_levelAt_50 : decode cX4_levelAt 50 = .ok (.iload 4, 2) := by decide +kernel
theorem dX4_levelAt_52 : decode cX4_levelAt 52 = .ok (.iaload, 1) := by decide +kernel
theorem dX4_levelAt_53 : decode cX4_levelAt 53 = .ok (.goto 4, 3) := by decide +kernel
theorem dX4_levelAt_56 : decode cX4_levelAt 56 = .ok (.iload_n 3, 1) := by decide +kernel
theorem dX4_levelAt_57 : decode cX4_levelAt 57 = .ok (.istore_n 3, 1) := by decide +kernel
theorem dX4_levelAt_58 : decode cX4_levelAt 58 = .ok (.iinc 4 1, 3) := by decide +kernel
theorem dX4_levelAt_61 : decode cX4_levelAt 61 = .ok (.goto (-56), 3) := by decide +kernel
theorem dX4_levelAt_64 : decode cX4_levelAt 64 = .ok (.iload_n 3, 1) := by decide +kernel
theorem dX4_levelAt_65 : decode cX4_levelAt 65 = .ok (.ireturn, 1) := by decide +kernel
theorem dX4_level_0 : decode cX4_level 0 = .ok (.aload_n 0, 1) := by decide +kernel
theorem dX4_level_1 : decode cX4_level 1 = .ok (.iload_n 1, 1) := by decide +kernel
theorem dX4_level_2 : decode cX4_level 2 = .ok (.iconst 0, 1) := by decide +kernel
theorem dX4_level_3 : decode cX4_level 3 = .ok (.aload_n 0, 1) := by decide +kernel
theorem dX4_level_4 : decode cX4_level 4 = .ok (.getfield 71, 3) := by decide +kernel
theorem dX4_level_7 : decode cX4_level 7 = .ok (.iconst 1, 1) := by decide +kernel
theorem dX4_level_8 : decode cX4_level 8 = .ok (.isub, 1) := by decide +kernel
theorem dX4_level_9 : decode cX4_level 9 = .ok (.invokestatic 60, 3) := by decide +kernel
theorem dX4_level_12 : decode cX4_level 12 = .ok (.ifCond .eq 17, 3) := by decide +kernel
theorem dX4_level_15 : decode cX4_level 15 = .ok (.iload_n 2, 1) := by decide +kernel
theorem dX4_level_16 : decode cX4_level 16 = .ok (.iconst 0, 1) := by decide +kernel
theorem dX4_level_17 : decode cX4_level 17 = .ok (.bipush 19, 2) := by decide +kernel
theorem dX4_level_19 : decode cX4_level 19 = .ok (.invokestatic 60, 3) := by decide +kernel
theorem dX4_level_22 : decode cX4_level 22 = .ok (.ifCond .eq 7, 3) := by decide +kernel
theorem dX4_level_25 : decode cX4_level 25 = .ok (.iconst 1, 1) := by decide +kernel
theorem dX4_level_26 : decode cX4_level 26 = .ok (.goto 4, 3) := by decide +kernel
theorem dX4_level_29 : decode cX4_level 29 = .ok (.iconst 0, 1) := by decide +kernel
theorem dX4_level_30 : decode cX4_level 30 = .ok (.invokevirtual 156, 3) := by decide +kernel
theorem dX4_level_33 : decode cX4_level 33 = .ok (.ifCond .eq 7, 3) := by decide +kernel
theorem dX4_level_36 : decode cX4_level 36 = .ok (.iconst 0, 1) := by decide +kernel
theorem dX4_level_37 : decode cX4_level 37 = .ok (.goto 9, 3) := by decide +kernel
theorem dX4_level_40 : decode cX4_level 40 = .ok (.aload_n 0, 1) := by decide +kernel
theorem dX4_level_41 : decode cX4_level 41 = .ok (.iload_n 1, 1) := by decide +kernel
theorem dX4_level_42 : decode cX4_level 42 = .ok (.iload_n 2, 1) := by decide +kernel
theorem dX4_level_43 : decode cX4_level 43 = .ok (.invokevirtual 160, 3) := by decide +kernel
theorem dX4_level_46 : decode cX4_level 46 = .ok (.ireturn, 1) := by decide +kernel
theorem dX4_lies_0 : decode cX4_lies 0 = .ok (.iconst 0, 1) := by decide +kernel
theorem dX4_lies_1 : decode cX4_lies 1 = .ok (.istore 4, 2) := by decide +kernel
theorem dX4_lies_3 : decode cX4_lies 3 = .ok (.iconst 0, 1) := by decide +kernel
theorem dX4_lies_4 : decode cX4_lies 4 = .ok (.istore 5, 2) := by decide +kernel
theorem dX4_lies_6 : decode cX4_lies 6 = .ok (.iload 5, 2) := by decide +kernel
theorem dX4_lies_8 : decode cX4_lies 8 = .ok (.aload_n 0, 1) := by decide +kernel
theorem dX4_lies_9 : decode cX4_lies 9 = .ok (.getfield 68, 3) := by decide +kernel
theorem dX4_lies_12 : decode cX4_lies 12 = .ok (.if_icmp .ge 58, 3) := by decide +kernel
theorem dX4_lies_15 : decode cX4_lies 15 = .ok (.iload 4, 2) := by decide +kernel
theorem dX4_lies_17 : decode cX4_lies 17 = .ok (.ifCond .ne 40, 3) := by decide +kernel
theorem dX4_lies_20 : decode cX4_lies 20 = .ok (.aload_n 0, 1) := by decide +kernel
theorem dX4_lies_21 : decode cX4_lies 21 = .ok (.getfield 38, 3) := by decide +kernel
theorem dX4_lies_24 : decode cX4_lies 24 = .ok (.iload 5, 2) := by decide +kernel
theorem dX4_lies_26 : decode cX4_lies 26 = .ok (.iaload, 1) := by decide +kernel
theorem dX4_lies_27 : decode cX4_lies 27 = .ok (.iload_n 1, 1) := by decide +kernel
theorem dX4_lies_28 : decode cX4_lies 28 = .ok (.if_icmp .ne 33, 3) := by decide +kernel
theorem dX4_lies_31 : decode cX4_lies 31 = .ok (.aload_n 0, 1) := by decide +kernel
theorem dX4_lies_32 : decode cX4_lies 32 = .ok (.getfield 50, 3) := by decide +kernel
theorem dX4_lies_35 : decode cX4_lies 35 = .ok (.iload 5, 2) := by decide +kernel
theorem dX4_lies_37 : decode cX4_lies 37 = .ok (.iaload, 1) := by decide +kernel
theorem dX4_lies_38 : decode cX4_lies 38 = .ok (.iload_n 3, 1) := by decide +kernel
theorem dX4_lies_39 : decode cX4_lies 39 = .ok (.if_icmp .ne 22, 3) := by decide +kernel
theorem dX4_lies_42 : decode cX4_lies 42 = .ok (.aload_n 0, 1) := by decide +kernel
theorem dX4_lies_43 : decode cX4_lies 43 = .ok (.getfield 47, 3) := by decide +kernel
theorem dX4_lies_46 : decode cX4_lies 46 = .ok (.iload 5, 2) := by decide +kernel
theorem dX4_lies_48 : decode cX4_lies 48 = .ok (.iaload, 1) := by decide +kernel
theorem dX4_lies_49 : decode cX4_lies 49 = .ok (.iload_n 2, 1) := by decide +kernel
theorem dX4_lies_50 : decode cX4_lies 50 = .ok (.ishr, 1) := by decide +kernel
theorem dX4_lies_51 : decode cX4_lies 51 = .ok (.iconst 1, 1) := by decide +kernel
theorem dX4_lies_52 : decode cX4_lies 52 = .ok (.iand, 1) := by decide +kernel
theorem dX4_lies_53 : decode cX4_lies 53 = .ok (.iconst 1, 1) := by decide +kernel
theorem dX4_lies_54 : decode cX4_lies 54 = .ok (.if_icmp .ne 7, 3) := by decide +kernel
theorem dX4_lies_57 : decode cX4_lies 57 = .ok (.iconst 1, 1) := by decide +kernel
theorem dX4_lies_58 : decode cX4_lies 58 = .ok (.goto 4, 3) := by decide +kernel
theorem dX4_lies_61 : decode cX4_lies 61 = .ok (.iconst 0, 1) := by decide +kernel
theorem dX4_lies_62 : decode cX4_lies 62 = .ok (.istore 4, 2) := by decide +kernel
theorem dX4_lies_64 : decode cX4_lies 64 = .ok (.iinc 5 1, 3) := by decide +kernel
theorem dX4_lies_67 : decode cX4_lies 67 = .ok (.goto (-61), 3) := by decide +kernel
theorem dX4_lies_70 : decode cX4_lies 70 = .ok (.iload 4, 2) := by decide +kernel
theorem dX4_lies_72 : decode cX4_lies 72 = .ok (.ireturn, 1) := by decide +kernel
theorem dX4_uprightAt_0 : decode cX4_uprightAt 0 = .ok (.aload_n 0, 1) := by decide +kernel
theorem dX4_uprightAt_1 : decode cX4_uprightAt 1 = .ok (.getfield 7, 3) := by decide +kernel
theorem dX4_uprightAt_4 : decode cX4_uprightAt 4 = .ok (.iload_n 1, 1) := by decide +kernel
theorem dX4_uprightAt_5 : decode cX4_uprightAt 5 = .ok (.iaload, 1) := by decide +kernel
theorem dX4_uprightAt_6 : decode cX4_uprightAt 6 = .ok (.istore_n 3, 1) := by decide +kernel
theorem dX4_uprightAt_7 : decode cX4_uprightAt 7 = .ok (.aload_n 0, 1) := by decide +kernel
theorem dX4_uprightAt_8 : decode cX4_uprightAt 8 = .ok (.getfield 7, 3) := by decide +kernel
theorem dX4_uprightAt_11 : decode cX4_uprightAt 11 = .ok (.bipush 20, 2) := by decide +kernel
theorem dX4_uprightAt_13 : decode cX4_uprightAt 13 = .ok (.iload_n 1, 1) := by decide +kernel
theorem dX4_uprightAt_14 : decode cX4_uprightAt 14 = .ok (.iadd, 1) := by decide +kernel
theorem dX4_uprightAt_15 : decode cX4_uprightAt 15 = .ok (.iaload, 1) := by decide +kernel
theorem dX4_uprightAt_16 : decode cX4_uprightAt 16 = .ok (.istore 4, 2) := by decide +kernel
theorem dX4_uprightAt_18 : decode cX4_uprightAt 18 = .ok (.iload_n 3, 1) := by decide +kernel
theorem dX4_uprightAt_19 : decode cX4_uprightAt 19 = .ok (.iload 4, 2) := by decide +kernel
theorem dX4_uprightAt_21 : decode cX4_uprightAt 21 = .ok (.if_icmp .ne 5, 3) := by decide +kernel
theorem dX4_uprightAt_24 : decode cX4_uprightAt 24 = .ok (.iload_n 3, 1) := by decide +kernel
theorem dX4_uprightAt_25 : decode cX4_uprightAt 25 = .ok (.ireturn, 1) := by decide +kernel
theorem dX4_uprightAt_26 : decode cX4_uprightAt 26 = .ok (.iload_n 2, 1) := by decide +kernel
theorem dX4_uprightAt_27 : decode cX4_uprightAt 27 = .ok (.iconst (-1), 1) := by decide +kernel
theorem dX4_uprightAt_28 : decode cX4_uprightAt 28 = .ok (.if_icmp .ne 7, 3) := by decide +kernel
theorem dX4_uprightAt_31 : decode cX4_uprightAt 31 = .ok (.iconst 1, 1) := by decide +kernel
theorem dX4_uprightAt_32 : decode cX4_uprightAt 32 = .ok (.goto 4, 3) := by decide +kernel
theorem dX4_uprightAt_35 : decode cX4_uprightAt 35 = .ok (.iconst 0, 1) := by decide +kernel
theorem dX4_uprightAt_36 : decode cX4_uprightAt 36 = .ok (.istore 5, 2) := by decide +kernel
theorem dX4_uprightAt_38 : decode cX4_uprightAt 38 = .ok (.iload_n 2, 1) := by decide +kernel
theorem dX4_uprightAt_39 : decode cX4_uprightAt 39 = .ok (.aload_n 0, 1) := by decide +kernel
theorem dX4_uprightAt_40 : decode cX4_uprightAt 40 = .ok (.getfield 71, 3) := by decide +kernel
theorem dX4_uprightAt_43 : decode cX4_uprightAt 43 = .ok (.if_icmp .ne 7, 3) := by decide +kernel
theorem dX4_uprightAt_46 : decode cX4_uprightAt 46 = .ok (.iconst 1, 1) := by decide +kernel
theorem dX4_uprightAt_47 : decode cX4_uprightAt 47 = .ok (.goto 4, 3) := by decide +kernel
theorem dX4_uprightAt_50 : decode cX4_uprightAt 50 = .ok (.iconst 0, 1) := by decide +kernel
theorem dX4_uprightAt_51 : decode cX4_uprightAt 51 = .ok (.istore 6, 2) := by decide +kernel
theorem dX4_uprightAt_53 : decode cX4_uprightAt 53 = .ok (.iconst 0, 1) := by decide +kernel
theorem dX4_uprightAt_54 : decode cX4_uprightAt 54 = .ok (.istore 7, 2) := by decide +kernel
theorem dX4_uprightAt_56 : decode cX4_uprightAt 56 = .ok (.iload 7, 2) := by decide +kernel
theorem dX4_uprightAt_58 : decode cX4_uprightAt 58 = .ok (.aload_n 0, 1) := by decide +kernel
theorem dX4_uprightAt_59 : decode cX4_uprightAt 59 = .ok (.getfield 71, 3) := by decide +kernel
theorem dX4_uprightAt_62 : decode cX4_uprightAt 62 = .ok (.if_icmp .ge 68, 3) := by decide +kernel
theorem dX4_uprightAt_65 : decode cX4_uprightAt 65 = .ok (.iload 5, 2) := by decide +kernel
theorem dX4_uprightAt_67 : decode cX4_uprightAt 67 = .ok (.ifCond .ne 20, 3) := by decide +kernel
theorem dX4_uprightAt_70 : decode cX4_uprightAt 70 = .ok (.iload 7, 2) := by decide +kernel
theorem dX4_uprightAt_72 : decode cX4_uprightAt 72 = .ok (.iload_n 2, 1) := by decide +kernel
theorem dX4_uprightAt_73 : decode cX4_uprightAt 73 = .ok (.if_icmp .lt 18, 3) := by decide +kernel
theorem dX4_uprightAt_76 : decode cX4_uprightAt 76 = .ok (.aload_n 0, 1) := by decide +kernel
theorem dX4_uprightAt_77 : decode cX4_uprightAt 77 = .ok (.iload_n 3, 1) := by decide +kernel
theorem dX4_uprightAt_78 : decode cX4_uprightAt 78 = .ok (.iload_n 1, 1) := by decide +kernel
theorem dX4_uprightAt_79 : decode cX4_uprightAt 79 = .ok (.iload 7, 2) := by decide +kernel
theorem dX4_uprightAt_81 : decode cX4_uprightAt 81 = .ok (.invokevirtual 164, 3) := by decide +kernel
theorem dX4_uprightAt_84 : decode cX4_uprightAt 84 = .ok (.ifCond .eq 7, 3) := by decide +kernel
theorem dX4_uprightAt_87 : decode cX4_uprightAt 87 = .ok (.iconst 1, 1) := by decide +kernel
theorem dX4_uprightAt_88 : decode cX4_uprightAt 88 = .ok (.goto 4, 3) := by decide +kernel
theorem dX4_uprightAt_91 : decode cX4_uprightAt 91 = .ok (.iconst 0, 1) := by decide +kernel
theorem dX4_uprightAt_92 : decode cX4_uprightAt 92 = .ok (.istore 5, 2) := by decide +kernel
theorem dX4_uprightAt_94 : decode cX4_uprightAt 94 = .ok (.iload 6, 2) := by decide +kernel
theorem dX4_uprightAt_96 : decode cX4_uprightAt 96 = .ok (.ifCond .ne 21, 3) := by decide +kernel
theorem dX4_uprightAt_99 : decode cX4_uprightAt 99 = .ok (.iload 7, 2) := by decide +kernel
theorem dX4_uprightAt_101 : decode cX4_uprightAt 101 = .ok (.iload_n 2, 1) := by decide +kernel
theorem dX4_uprightAt_102 : decode cX4_uprightAt 102 = .ok (.if_icmp .gt 19, 3) := by decide +kernel
theorem dX4_uprightAt_105 : decode cX4_uprightAt 105 = .ok (.aload_n 0, 1) := by decide +kernel
theorem dX4_uprightAt_106 : decode cX4_uprightAt 106 = .ok (.iload 4, 2) := by decide +kernel
theorem dX4_uprightAt_108 : decode cX4_uprightAt 108 = .ok (.iload_n 1, 1) := by decide +kernel
theorem dX4_uprightAt_109 : decode cX4_uprightAt 109 = .ok (.iload 7, 2) := by decide +kernel
theorem dX4_uprightAt_111 : decode cX4_uprightAt 111 = .ok (.invokevirtual 164, 3) := by decide +kernel
theorem dX4_uprightAt_114 : decode cX4_uprightAt 114 = .ok (.ifCond .eq 7, 3) := by decide +kernel
theorem dX4_uprightAt_117 : decode cX4_uprightAt 117 = .ok (.iconst 1, 1) := by decide +kernel
theorem dX4_uprightAt_118 : decode cX4_uprightAt 118 = .ok (.goto 4, 3) := by decide +kernel
theorem dX4_uprightAt_121 : decode cX4_uprightAt 121 = .ok (.iconst 0, 1) := by decide +kernel
theorem dX4_uprightAt_122 : decode cX4_uprightAt 122 = .ok (.istore 6, 2) := by decide +kernel
theorem dX4_uprightAt_124 : decode cX4_uprightAt 124 = .ok (.iinc 7 1, 3) := by decide +kernel
theorem dX4_uprightAt_127 : decode cX4_uprightAt 127 = .ok (.goto (-71), 3) := by decide +kernel
theorem dX4_uprightAt_130 : decode cX4_uprightAt 130 = .ok (.iload_n 3, 1) := by decide +kernel
theorem dX4_uprightAt_131 : decode cX4_uprightAt 131 = .ok (.ifCond .le 12, 3) := by decide +kernel
theorem dX4_uprightAt_134 : decode cX4_uprightAt 134 = .ok (.iload 5, 2) := by decide +kernel
theorem dX4_uprightAt_136 : decode cX4_uprightAt 136 = .ok (.ifCond .eq 7, 3) := by decide +kernel
theorem dX4_uprightAt_139 : decode cX4_uprightAt 139 = .ok (.iload_n 3, 1) := by decide +kernel
theorem dX4_uprightAt_140 : decode cX4_uprightAt 140 = .ok (.goto 19, 3) := by decide +kernel
theorem dX4_uprightAt_143 : decode cX4_uprightAt 143 = .ok (.iload 4, 2) := by decide +kernel
theorem dX4_uprightAt_145 : decode cX4_uprightAt 145 = .ok (.ifCond .le 13, 3) := by decide +kernel
theorem dX4_uprightAt_148 : decode cX4_uprightAt 148 = .ok (.iload 6, 2) := by decide +kernel
theorem dX4_uprightAt_150 : decode cX4_uprightAt 150 = .ok (.ifCond .eq 8, 3) := by decide +kernel
theorem dX4_uprightAt_153 : decode cX4_uprightAt 153 = .ok (.iload 4, 2) := by decide +kernel
theorem dX4_uprightAt_155 : decode cX4_uprightAt 155 = .ok (.goto 4, 3) := by decide +kernel
theorem dX4_uprightAt_158 : decode cX4_uprightAt 158 = .ok (.iconst 0, 1) := by decide +kernel
theorem dX4_uprightAt_159 : decode cX4_uprightAt 159 = .ok (.ireturn, 1) := by decide +kernel
theorem dX4_upright_0 : decode cX4_upright 0 = .ok (.aload_n 0, 1) := by decide +kernel
theorem dX4_upright_1 : decode cX4_upright 1 = .ok (.aload_n 0, 1) := by decide +kernel
theorem dX4_upright_2 : decode cX4_upright 2 = .ok (.getfield 64, 3) := by decide +kernel
theorem dX4_upright_5 : decode cX4_upright 5 = .ok (.ifCond .eq 29, 3) := by decide +kernel
theorem dX4_upright_8 : decode cX4_upright 8 = .ok (.iload_n 1, 1) := by decide +kernel
theorem dX4_upright_9 : decode cX4_upright 9 = .ok (.iconst 0, 1) := by decide +kernel
theorem dX4_upright_10 : decode cX4_upright 10 = .ok (.bipush 19, 2) := by decide +kernel
theorem dX4_upright_12 : decode cX4_upright 12 = .ok (.invokestatic 60, 3) := by decide +kernel
theorem dX4_upright_15 : decode cX4_upright 15 = .ok (.ifCond .eq 19, 3) := by decide +kernel
theorem dX4_upright_18 : decode cX4_upright 18 = .ok (.iload_n 2, 1) := by decide +kernel
theorem dX4_upright_19 : decode cX4_upright 19 = .ok (.iconst (-1), 1) := by decide +kernel
theorem dX4_upright_20 : decode cX4_upright 20 = .ok (.aload_n 0, 1) := by decide +kernel
theorem dX4_upright_21 : decode cX4_upright 21 = .ok (.getfield 71, 3) := by decide +kernel
theorem dX4_upright_24 : decode cX4_upright 24 = .ok (.invokestatic 60, 3) := by decide +kernel
theorem dX4_upright_27 : decode cX4_upright 27 = .ok (.ifCond .eq 7, 3) := by decide +kernel
theorem dX4_upright_30 : decode cX4_upright 30 = .ok (.iconst 1, 1) := by decide +kernel
theorem dX4_upright_31 : decode cX4_upright 31 = .ok (.goto 4, 3) := by decide +kernel
theorem dX4_upright_34 : decode cX4_upright 34 = .ok (.iconst 0, 1) := by decide +kernel
theorem dX4_upright_35 : decode cX4_upright 35 = .ok (.invokevirtual 156, 3) := by decide +kernel
theorem dX4_upright_38 : decode cX4_upright 38 = .ok (.ifCond .eq 7, 3) := by decide +kernel
theorem dX4_upright_41 : decode cX4_upright 41 = .ok (.iconst 0, 1) := by decide +kernel
theorem dX4_upright_42 : decode cX4_upright 42 = .ok (.goto 9, 3) := by decide +kernel
theorem dX4_upright_45 : decode cX4_upright 45 = .ok (.aload_n 0, 1) := by decide +kernel
theorem dX4_upright_46 : decode cX4_upright 46 = .ok (.iload_n 1, 1) := by decide +kernel
theorem dX4_upright_47 : decode cX4_upright 47 = .ok (.iload_n 2, 1) := by decide +kernel
theorem dX4_upright_48 : decode cX4_upright 48 = .ok (.invokevirtual 167, 3) := by decide +kernel
theorem dX4_upright_51 : decode cX4_upright 51 = .ok (.ireturn, 1) := by decide +kernel
theorem dX4_viaAt_0 : decode cX4_viaAt 0 = .ok (.aload_n 0, 1) := by decide +kernel
theorem dX4_viaAt_1 : decode cX4_viaAt 1 = .ok (.iload_n 1, 1) := by decide +kernel
theorem dX4_viaAt_2 : decode cX4_viaAt 2 = .ok (.iload_n 2, 1) := by decide +kernel
theorem dX4_viaAt_3 : decode cX4_viaAt 3 = .ok (.invokevirtual 160, 3) := by decide +kernel
theorem dX4_viaAt_6 : decode cX4_viaAt 6 = .ok (.istore_n 3, 1) := by decide +kernel
theorem dX4_viaAt_7 : decode cX4_viaAt 7 = .ok (.iload_n 3, 1) := by decide +kernel
theorem dX4_viaAt_8 : decode cX4_viaAt 8 = .ok (.ifCond .le 27, 3) := by decide +kernel
theorem dX4_viaAt_11 : decode cX4_viaAt 11 = .ok (.aload_n 0, 1) := by decide +kernel
theorem dX4_viaAt_12 : decode cX4_viaAt 12 = .ok (.iload_n 2, 1) := by decide +kernel
theorem dX4_viaAt_13 : decode cX4_viaAt 13 = .ok (.iload_n 1, 1) := by decide +kernel
theorem dX4_viaAt_14 : decode cX4_viaAt 14 = .ok (.invokevirtual 167, 3) := by decide +kernel
theorem dX4_viaAt_17 : decode cX4_viaAt 17 = .ok (.iload_n 3, 1) := by decide +kernel
theorem dX4_viaAt_18 : decode cX4_viaAt 18 = .ok (.if_icmp .ne 17, 3) := by decide +kernel
theorem dX4_viaAt_21 : decode cX4_viaAt 21 = .ok (.aload_n 0, 1) := by decide +kernel
theorem dX4_viaAt_22 : decode cX4_viaAt 22 = .ok (.iload_n 3, 1) := by decide +kernel
theorem dX4_viaAt_23 : decode cX4_viaAt 23 = .ok (.iload_n 2, 1) := by decide +kernel
theorem dX4_viaAt_24 : decode cX4_viaAt 24 = .ok (.iload_n 1, 1) := by decide +kernel
theorem dX4_viaAt_25 : decode cX4_viaAt 25 = .ok (.invokevirtual 164, 3) := by decide +kernel
theorem dX4_viaAt_28 : decode cX4_viaAt 28 = .ok (.ifCond .eq 7, 3) := by decide +kernel
theorem dX4_viaAt_31 : decode cX4_viaAt 31 = .ok (.iconst 1, 1) := by decide +kernel
theorem dX4_viaAt_32 : decode cX4_viaAt 32 = .ok (.goto 4, 3) := by decide +kernel
theorem dX4_viaAt_35 : decode cX4_viaAt 35 = .ok (.iconst 0, 1) := by decide +kernel
theorem dX4_viaAt_36 : decode cX4_viaAt 36 = .ok (.ireturn, 1) := by decide +kernel
theorem dX4_via_0 : decode cX4_via 0 = .ok (.aload_n 0, 1) := by decide +kernel
theorem dX4_via_1 : decode cX4_via 1 = .ok (.iload_n 1, 1) := by decide +kernel
theorem dX4_via_2 : decode cX4_via 2 = .ok (.iconst 0, 1) := by decide +kernel
theorem dX4_via_3 : decode cX4_via 3 = .ok (.aload_n 0, 1) := by decide +kernel
theorem dX4_via_4 : decode cX4_via 4 = .ok (.getfield 71, 3) := by decide +kernel
theorem dX4_via_7 : decode cX4_via 7 = .ok (.iconst 1, 1) := by decide +kernel
theorem dX4_via_8 : decode cX4_via 8 = .ok (.isub, 1) := by decide +kernel
theorem dX4_via_9 : decode cX4_via 9 = .ok (.invokestatic 60, 3) := by decide +kernel
theorem dX4_via_12 : decode cX4_via 12 = .ok (.ifCond .eq 17, 3) := by decide +kernel
theorem dX4_via_15 : decode cX4_via 15 = .ok (.iload_n 2, 1) := by decide +kernel
theorem dX4_via_16 : decode cX4_via 16 = .ok (.iconst 0, 1) := by decide +kernel
theorem dX4_via_17 : decode cX4_via 17 = .ok (.bipush 19, 2) := by decide +kernel
theorem dX4_via_19 : decode cX4_via 19 = .ok (.invokestatic 60, 3) := by decide +kernel
theorem dX4_via_22 : decode cX4_via 22 = .ok (.ifCond .eq 7, 3) := by decide +kernel
theorem dX4_via_25 : decode cX4_via 25 = .ok (.iconst 1, 1) := by decide +kernel
theorem dX4_via_26 : decode cX4_via 26 = .ok (.goto 4, 3) := by decide +kernel
theorem dX4_via_29 : decode cX4_via 29 = .ok (.iconst 0, 1) := by decide +kernel
theorem dX4_via_30 : decode cX4_via 30 = .ok (.invokevirtual 156, 3) := by decide +kernel
theorem dX4_via_33 : decode cX4_via 33 = .ok (.ifCond .ne 16, 3) := by decide +kernel
theorem dX4_via_36 : decode cX4_via 36 = .ok (.aload_n 0, 1) := by decide +kernel
theorem dX4_via_37 : decode cX4_via 37 = .ok (.iload_n 1, 1) := by decide +kernel
theorem dX4_via_38 : decode cX4_via 38 = .ok (.iload_n 2, 1) := by decide +kernel
theorem dX4_via_39 : decode cX4_via 39 = .ok (.invokevirtual 170, 3) := by decide +kernel
theorem dX4_via_42 : decode cX4_via 42 = .ok (.ifCond .eq 7, 3) := by decide +kernel
theorem dX4_via_45 : decode cX4_via 45 = .ok (.iconst 1, 1) := by decide +kernel
theorem dX4_via_46 : decode cX4_via 46 = .ok (.goto 4, 3) := by decide +kernel
theorem dX4_via_49 : decode cX4_via 49 = .ok (.iconst 0, 1) := by decide +kernel
theorem dX4_via_50 : decode cX4_via 50 = .ok (.ireturn, 1) := by decide +kernel
theorem dX4_density_0 : decode cX4_density 0 = .ok (.aload_n 0, 1) := by decide +kernel
theorem dX4_density_1 : decode cX4_density 1 = .ok (.iconst 0, 1) := by decide +kernel
theorem dX4_density_2 : decode cX4_density 2 = .ok (.putfield 56, 3) := by decide +kernel
theorem dX4_density_5 : decode cX4_density 5 = .ok (.iconst 0, 1) := by decide +kernel
theorem dX4_density_6 : decode cX4_density 6 = .ok (.istore_n 1, 1) := by decide +kernel
theorem dX4_density_7 : decode cX4_density 7 = .ok (.iconst 0, 1) := by decide +kernel
theorem dX4_density_8 : decode cX4_density 8 = .ok (.istore_n 2, 1) := by decide +kernel
theorem dX4_density_9 : decode cX4_density 9 = .ok (.iload_n 2, 1) := by decide +kernel
theorem dX4_density_10 : decode cX4_density 10 = .ok (.bipush 20, 2) := by decide +kernel
theorem dX4_density_12 : decode cX4_density 12 = .ok (.if_icmp .ge 93, 3) := by decide +kernel
theorem dX4_density_15 : decode cX4_density 15 = .ok (.iconst 0, 1) := by decide +kernel
theorem dX4_density_16 : decode cX4_density 16 = .ok (.istore_n 3, 1) := by decide +kernel
theorem dX4_density_17 : decode cX4_density 17 = .ok (.iconst 1, 1) := by decide +kernel
theorem dX4_density_18 : decode cX4_density 18 = .ok (.istore 4, 2) := by decide +kernel
theorem dX4_density_20 : decode cX4_density 20 = .ok (.iload 4, 2) := by decide +kernel
theorem dX4_density_22 : decode cX4_density 22 = .ok (.bipush 9, 2) := by decide +kernel
theorem dX4_density_24 : decode cX4_density 24 = .ok (.if_icmp .gt 64, 3) := by decide +kernel
theorem dX4_density_27 : decode cX4_density 27 = .ok (.aload_n 0, 1) := by decide +kernel
theorem dX4_density_28 : decode cX4_density 28 = .ok (.iload 4, 2) := by decide +kernel
theorem dX4_density_30 : decode cX4_density 30 = .ok (.invokevirtual 87, 3) := by decide +kernel
theorem dX4_density_33 : decode cX4_density 33 = .ok (.iconst 3, 1) := by decide +kernel
theorem dX4_density_34 : decode cX4_density 34 = .ok (.if_icmp .ne 32, 3) := by decide +kernel
theorem dX4_density_37 : decode cX4_density 37 = .ok (.iload_n 2, 1) := by decide +kernel
theorem dX4_density_38 : decode cX4_density 38 = .ok (.aload_n 0, 1) := by decide +kernel
theorem dX4_density_39 : decode cX4_density 39 = .ok (.iload 4, 2) := by decide +kernel
theorem dX4_density_41 : decode cX4_density 41 = .ok (.invokevirtual 78, 3) := by decide +kernel
theorem dX4_density_44 : decode cX4_density 44 = .ok (.invokestatic 81, 3) := by decide +kernel
theorem dX4_density_47 : decode cX4_density 47 = .ok (.aload_n 0, 1) := by decide +kernel
theorem dX4_density_48 : decode cX4_density 48 = .ok (.iload 4, 2) := by decide +kernel
theorem dX4_density_50 : decode cX4_density 50 = .ok (.invokevirtual 78, 3) := by decide +kernel
theorem dX4_density_53 : decode cX4_density 53 = .ok (.invokestatic 84, 3) := by decide +kernel
theorem dX4_density_56 : decode cX4_density 56 = .ok (.invokestatic 60, 3) := by decide +kernel
theorem dX4_density_59 : decode cX4_density 59 = .ok (.ifCond .eq 7, 3) := by decide +kernel
theorem dX4_density_62 : decode cX4_density 62 = .ok (.iconst 1, 1) := by decide +kernel
theorem dX4_density_63 : decode cX4_density 63 = .ok (.goto 4, 3) := by decide +kernel
theorem dX4_density_66 : decode cX4_density 66 = .ok (.iconst 0, 1) := by decide +kernel
theorem dX4_density_67 : decode cX4_density 67 = .ok (.istore 5, 2) := by decide +kernel
theorem dX4_density_69 : decode cX4_density 69 = .ok (.iload 5, 2) := by decide +kernel
theorem dX4_density_71 : decode cX4_density 71 = .ok (.ifCond .eq 9, 3) := by decide +kernel
theorem dX4_density_74 : decode cX4_density 74 = .ok (.iload_n 3, 1) := by decide +kernel
theorem dX4_density_75 : decode cX4_density 75 = .ok (.iconst 1, 1) := by decide +kernel
theorem dX4_density_76 : decode cX4_density 76 = .ok (.iadd, 1) := by decide +kernel
theorem dX4_density_77 : decode cX4_density 77 = .ok (.goto 4, 3) := by decide +kernel
theorem dX4_density_80 : decode cX4_density 80 = .ok (.iload_n 3, 1) := by decide +kernel
theorem dX4_density_81 : decode cX4_density 81 = .ok (.istore_n 3, 1) := by decide +kernel
theorem dX4_density_82 : decode cX4_density 82 = .ok (.iinc 4 1, 3) := by decide +kernel
theorem dX4_density_85 : decode cX4_density 85 = .ok (.goto (-65), 3) := by decide +kernel
theorem dX4_density_88 : decode cX4_density 88 = .ok (.iload_n 3, 1) := by decide +kernel
theorem dX4_density_89 : decode cX4_density 89 = .ok (.iload_n 1, 1) := by decide +kernel
theorem dX4_density_90 : decode cX4_density 90 = .ok (.if_icmp .le 7, 3) := by decide +kernel
theorem dX4_density_93 : decode cX4_density 93 = .ok (.iload_n 3, 1) := by decide +kernel
theorem dX4_density_94 : decode cX4_density 94 = .ok (.goto 4, 3) := by decide +kernel
theorem dX4_density_97 : decode cX4_density 97 = .ok (.iload_n 1, 1) := by decide +kernel
theorem dX4_density_98 : decode cX4_density 98 = .ok (.istore_n 1, 1) := by decide +kernel
theorem dX4_density_99 : decode cX4_density 99 = .ok (.iinc 2 1, 3) := by decide +kernel
theorem dX4_density_102 : decode cX4_density 102 = .ok (.goto (-93), 3) := by decide +kernel
theorem dX4_density_105 : decode cX4_density 105 = .ok (.iload_n 1, 1) := by decide +kernel
theorem dX4_density_106 : decode cX4_density 106 = .ok (.ireturn, 1) := by decide +kernel
theorem dX4_pairs_0 : decode cX4_pairs 0 = .ok (.aload_n 0, 1) := by decide +kernel
theorem dX4_pairs_1 : decode cX4_pairs 1 = .ok (.iconst 0, 1) := by decide +kernel
theorem dX4_pairs_2 : decode cX4_pairs 2 = .ok (.putfield 56, 3) := by decide +kernel
theorem dX4_pairs_5 : decode cX4_pairs 5 = .ok (.aload_n 0, 1) := by decide +kernel
theorem dX4_pairs_6 : decode cX4_pairs 6 = .ok (.iload_n 1, 1) := by decide +kernel
theorem dX4_pairs_7 : decode cX4_pairs 7 = .ok (.invokevirtual 146, 3) := by decide +kernel
theorem dX4_pairs_10 : decode cX4_pairs 10 = .ok (.ireturn, 1) := by decide +kernel
theorem dX4_net_0 : decode cX4_net 0 = .ok (.aload_n 0, 1) := by decide +kernel
theorem dX4_net_1 : decode cX4_net 1 = .ok (.iload_n 1, 1) := by decide +kernel
theorem dX4_net_2 : decode cX4_net 2 = .ok (.iconst 1, 1) := by decide +kernel
theorem dX4_net_3 : decode cX4_net 3 = .ok (.bipush 9, 2) := by decide +kernel
theorem dX4_net_5 : decode cX4_net 5 = .ok (.invokestatic 60, 3) := by decide +kernel
theorem dX4_net_8 : decode cX4_net 8 = .ok (.ifCond .eq 16, 3) := by decide +kernel
theorem dX4_net_11 : decode cX4_net 11 = .ok (.iload_n 2, 1) := by decide +kernel
theorem dX4_net_12 : decode cX4_net 12 = .ok (.iconst 0, 1) := by decide +kernel
theorem dX4_net_13 : decode cX4_net 13 = .ok (.iconst 3, 1) := by decide +kernel
theorem dX4_net_14 : decode cX4_net 14 = .ok (.invokestatic 60, 3) := by decide +kernel
theorem dX4_net_17 : decode cX4_net 17 = .ok (.ifCond .eq 7, 3) := by decide +kernel
theorem dX4_net_20 : decode cX4_net 20 = .ok (.iconst 1, 1) := by decide +kernel
theorem dX4_net_21 : decode cX4_net 21 = .ok (.goto 4, 3) := by decide +kernel
theorem dX4_net_24 : decode cX4_net 24 = .ok (.iconst 0, 1) := by decide +kernel
theorem dX4_net_25 : decode cX4_net 25 = .ok (.invokevirtual 156, 3) := by decide +kernel
theorem dX4_net_28 : decode cX4_net 28 = .ok (.ifCond .eq 5, 3) := by decide +kernel
theorem dX4_net_31 : decode cX4_net 31 = .ok (.iconst 0, 1) := by decide +kernel
theorem dX4_net_32 : decode cX4_net 32 = .ok (.ireturn, 1) := by decide +kernel
theorem dX4_net_33 : decode cX4_net 33 = .ok (.aload_n 0, 1) := by decide +kernel
theorem dX4_net_34 : decode cX4_net 34 = .ok (.iload_n 1, 1) := by decide +kernel
theorem dX4_net_35 : decode cX4_net 35 = .ok (.invokevirtual 87, 3) := by decide +kernel
theorem dX4_net_38 : decode cX4_net 38 = .ok (.istore_n 3, 1) := by decide +kernel
theorem dX4_net_39 : decode cX4_net 39 = .ok (.iload_n 2, 1) := by decide +kernel
theorem dX4_net_40 : decode cX4_net 40 = .ok (.iconst 2, 1) := by decide +kernel
theorem dX4_net_41 : decode cX4_net 41 = .ok (.if_icmp .ge 36, 3) := by decide +kernel
theorem dX4_net_44 : decode cX4_net 44 = .ok (.iload_n 3, 1) := by decide +kernel
theorem dX4_net_45 : decode cX4_net 45 = .ok (.iconst 3, 1) := by decide +kernel
theorem dX4_net_46 : decode cX4_net 46 = .ok (.if_icmp .ge 7, 3) := by decide +kernel
theorem dX4_net_49 : decode cX4_net 49 = .ok (.iconst (-1), 1) := by decide +kernel
theorem dX4_net_50 : decode cX4_net 50 = .ok (.goto 26, 3) := by decide +kernel
theorem dX4_net_53 : decode cX4_net 53 = .ok (.iload_n 2, 1) := by decide +kernel
theorem dX4_net_54 : decode cX4_net 54 = .ok (.ifCond .ne 14, 3) := by decide +kernel
theorem dX4_net_57 : decode cX4_net 57 = .ok (.aload_n 0, 1) := by decide +kernel
theorem dX4_net_58 : decode cX4_net 58 = .ok (.iload_n 1, 1) := by decide +kernel
theorem dX4_net_59 : decode cX4_net 59 = .ok (.invokevirtual 78, 3) := by decide +kernel
theorem dX4_net_62 : decode cX4_net 62 = .ok (.invokestatic 81, 3) := by decide +kernel
theorem dX4_net_65 : decode cX4_net 65 = .ok (.goto 11, 3) := by decide +kernel
theorem dX4_net_68 : decode cX4_net 68 = .ok (.aload_n 0, 1) := by decide +kernel
theorem dX4_net_69 : decode cX4_net 69 = .ok (.iload_n 1, 1) := by decide +kernel
theorem dX4_net_70 : decode cX4_net 70 = .ok (.invokevirtual 78, 3) := by decide +kernel
theorem dX4_net_73 : decode cX4_net 73 = .ok (.invokestatic 84, 3) := by decide +kernel
theorem dX4_net_76 : decode cX4_net 76 = .ok (.ireturn, 1) := by decide +kernel
theorem dX4_net_77 : decode cX4_net 77 = .ok (.iload_n 2, 1) := by decide +kernel
theorem dX4_net_78 : decode cX4_net 78 = .ok (.iconst 2, 1) := by decide +kernel
theorem dX4_net_79 : decode cX4_net 79 = .ok (.if_icmp .ne 11, 3) := by decide +kernel
theorem dX4_net_82 : decode cX4_net 82 = .ok (.aload_n 0, 1) := by decide +kernel
theorem dX4_net_83 : decode cX4_net 83 = .ok (.iload_n 1, 1) := by decide +kernel
theorem dX4_net_84 : decode cX4_net 84 = .ok (.invokevirtual 74, 3) := by decide +kernel
theorem dX4_net_87 : decode cX4_net 87 = .ok (.goto 4, 3) := by decide +kernel
theorem dX4_net_90 : decode cX4_net 90 = .ok (.iload_n 3, 1) := by decide +kernel
theorem dX4_net_91 : decode cX4_net 91 = .ok (.ireturn, 1) := by decide +kernel
theorem dX4_vias_0 : decode cX4_vias 0 = .ok (.iconst 0, 1) := by decide +kernel
theorem dX4_vias_1 : decode cX4_vias 1 = .ok (.istore_n 1, 1) := by decide +kernel
theorem dX4_vias_2 : decode cX4_vias 2 = .ok (.iconst 0, 1) := by decide +kernel
theorem dX4_vias_3 : decode cX4_vias 3 = .ok (.istore_n 2, 1) := by decide +kernel
theorem dX4_vias_4 : decode cX4_vias 4 = .ok (.iload_n 2, 1) := by decide +kernel
theorem dX4_vias_5 : decode cX4_vias 5 = .ok (.aload_n 0, 1) := by decide +kernel
theorem dX4_vias_6 : decode cX4_vias 6 = .ok (.getfield 71, 3) := by decide +kernel
theorem dX4_vias_9 : decode cX4_vias 9 = .ok (.if_icmp .ge 40, 3) := by decide +kernel
theorem dX4_vias_12 : decode cX4_vias 12 = .ok (.iconst 0, 1) := by decide +kernel
theorem dX4_vias_13 : decode cX4_vias 13 = .ok (.istore_n 3, 1) := by decide +kernel
theorem dX4_vias_14 : decode cX4_vias 14 = .ok (.iload_n 3, 1) := by decide +kernel
theorem dX4_vias_15 : decode cX4_vias 15 = .ok (.bipush 20, 2) := by decide +kernel
theorem dX4_vias_17 : decode cX4_vias 17 = .ok (.if_icmp .ge 26, 3) := by decide +kernel
theorem dX4_vias_20 : decode cX4_vias 20 = .ok (.aload_n 0, 1) := by decide +kernel
theorem dX4_vias_21 : decode cX4_vias 21 = .ok (.iload_n 2, 1) := by decide +kernel
theorem dX4_vias_22 : decode cX4_vias 22 = .ok (.iload_n 3, 1) := by decide +kernel
theorem dX4_vias_23 : decode cX4_vias 23 = .ok (.invokevirtual 170, 3) := by decide +kernel
theorem dX4_vias_26 : decode cX4_vias 26 = .ok (.ifCond .eq 9, 3) := by decide +kernel
theorem dX4_vias_29 : decode cX4_vias 29 = .ok (.iload_n 1, 1) := by decide +kernel
theorem dX4_vias_30 : decode cX4_vias 30 = .ok (.iconst 1, 1) := by decide +kernel
theorem dX4_vias_31 : decode cX4_vias 31 = .ok (.iadd, 1) := by decide +kernel
theorem dX4_vias_32 : decode cX4_vias 32 = .ok (.goto 4, 3) := by decide +kernel
theorem dX4_vias_35 : decode cX4_vias 35 = .ok (.iload_n 1, 1) := by decide +kernel
theorem dX4_vias_36 : decode cX4_vias 36 = .ok (.istore_n 1, 1) := by decide +kernel
theorem dX4_vias_37 : decode cX4_vias 37 = .ok (.iinc 3 1, 3) := by decide +kernel
theorem dX4_vias_40 : decode cX4_vias 40 = .ok (.goto (-26), 3) := by decide +kernel
theorem dX4_vias_43 : decode cX4_vias 43 = .ok (.iinc 2 1, 3) := by decide +kernel
theorem dX4_vias_46 : decode cX4_vias 46 = .ok (.goto (-42), 3) := by decide +kernel
theorem dX4_vias_49 : decode cX4_vias 49 = .ok (.iload_n 1, 1) := by decide +kernel
theorem dX4_vias_50 : decode cX4_vias 50 = .ok (.ireturn, 1) := by decide +kernel
theorem dX4_count_0 : decode cX4_count 0 = .ok (.aload_n 0, 1) := by decide +kernel
theorem dX4_count_1 : decode cX4_count 1 = .ok (.iload_n 1, 1) := by decide +kernel
theorem dX4_count_2 : decode cX4_count 2 = .ok (.iconst 0, 1) := by decide +kernel
theorem dX4_count_3 : decode cX4_count 3 = .ok (.iconst 5, 1) := by decide +kernel
theorem dX4_count_4 : decode cX4_count 4 = .ok (.invokestatic 60, 3) := by decide +kernel
theorem dX4_count_7 : decode cX4_count 7 = .ok (.invokevirtual 156, 3) := by decide +kernel
theorem dX4_count_10 : decode cX4_count 10 = .ok (.ifCond .eq 5, 3) := by decide +kernel
theorem dX4_count_13 : decode cX4_count 13 = .ok (.iconst 0, 1) := by decide +kernel
theorem dX4_count_14 : decode cX4_count 14 = .ok (.ireturn, 1) := by decide +kernel
theorem dX4_count_15 : decode cX4_count 15 = .ok (.iload_n 1, 1) := by decide +kernel
theorem dX4_count_16 : decode cX4_count 16 = .ok (.tableswitch 61 0 4 #[36, 41, 46, 51, 56], 36) := by decide +kernel
theorem dX4_count_52 : decode cX4_count 52 = .ok (.aload_n 0, 1) := by decide +kernel
theorem dX4_count_53 : decode cX4_count 53 = .ok (.getfield 71, 3) := by decide +kernel
theorem dX4_count_56 : decode cX4_count 56 = .ok (.ireturn, 1) := by decide +kernel
theorem dX4_count_57 : decode cX4_count 57 = .ok (.aload_n 0, 1) := by decide +kernel
theorem dX4_count_58 : decode cX4_count 58 = .ok (.getfield 68, 3) := by decide +kernel
theorem dX4_count_61 : decode cX4_count 61 = .ok (.ireturn, 1) := by decide +kernel
theorem dX4_count_62 : decode cX4_count 62 = .ok (.aload_n 0, 1) := by decide +kernel
theorem dX4_count_63 : decode cX4_count 63 = .ok (.invokevirtual 173, 3) := by decide +kernel
theorem dX4_count_66 : decode cX4_count 66 = .ok (.ireturn, 1) := by decide +kernel
theorem dX4_count_67 : decode cX4_count 67 = .ok (.aload_n 0, 1) := by decide +kernel
theorem dX4_count_68 : decode cX4_count 68 = .ok (.getfield 127, 3) := by decide +kernel
theorem dX4_count_71 : decode cX4_count 71 = .ok (.ireturn, 1) := by decide +kernel
theorem dX4_count_72 : decode cX4_count 72 = .ok (.aload_n 0, 1) := by decide +kernel
theorem dX4_count_73 : decode cX4_count 73 = .ok (.getfield 136, 3) := by decide +kernel
theorem dX4_count_76 : decode cX4_count 76 = .ok (.ireturn, 1) := by decide +kernel
theorem dX4_count_77 : decode cX4_count 77 = .ok (.aload_n 0, 1) := by decide +kernel
theorem dX4_count_78 : decode cX4_count 78 = .ok (.getfield 64, 3) := by decide +kernel
theorem dX4_count_81 : decode cX4_count 81 = .ok (.ifCond .eq 7, 3) := by decide +kernel
theorem dX4_count_84 : decode cX4_count 84 = .ok (.iconst 1, 1) := by decide +kernel
theorem dX4_count_85 : decode cX4_count 85 = .ok (.goto 4, 3) := by decide +kernel
theorem dX4_count_88 : decode cX4_count 88 = .ok (.iconst 0, 1) := by decide +kernel
theorem dX4_count_89 : decode cX4_count 89 = .ok (.ireturn, 1) := by decide +kernel
theorem dX4_used_0 : decode cX4_used 0 = .ok (.aload_n 0, 1) := by decide +kernel
theorem dX4_used_1 : decode cX4_used 1 = .ok (.iconst 0, 1) := by decide +kernel
theorem dX4_used_2 : decode cX4_used 2 = .ok (.putfield 56, 3) := by decide +kernel
theorem dX4_used_5 : decode cX4_used 5 = .ok (.iconst 0, 1) := by decide +kernel
theorem dX4_used_6 : decode cX4_used 6 = .ok (.istore_n 1, 1) := by decide +kernel
theorem dX4_used_7 : decode cX4_used 7 = .ok (.iconst 0, 1) := by decide +kernel
theorem dX4_used_8 : decode cX4_used 8 = .ok (.istore_n 2, 1) := by decide +kernel
theorem dX4_used_9 : decode cX4_used 9 = .ok (.iload_n 2, 1) := by decide +kernel
theorem dX4_used_10 : decode cX4_used 10 = .ok (.aload_n 0, 1) := by decide +kernel
theorem dX4_used_11 : decode cX4_used 11 = .ok (.getfield 71, 3) := by decide +kernel
theorem dX4_used_14 : decode cX4_used 14 = .ok (.if_icmp .ge 40, 3) := by decide +kernel
theorem dX4_used_17 : decode cX4_used 17 = .ok (.iconst 0, 1) := by decide +kernel
theorem dX4_used_18 : decode cX4_used 18 = .ok (.istore_n 3, 1) := by decide +kernel
theorem dX4_used_19 : decode cX4_used 19 = .ok (.iload_n 3, 1) := by decide +kernel
theorem dX4_used_20 : decode cX4_used 20 = .ok (.bipush 20, 2) := by decide +kernel
theorem dX4_used_22 : decode cX4_used 22 = .ok (.if_icmp .ge 26, 3) := by decide +kernel
theorem dX4_used_25 : decode cX4_used 25 = .ok (.aload_n 0, 1) := by decide +kernel
theorem dX4_used_26 : decode cX4_used 26 = .ok (.iload_n 2, 1) := by decide +kernel
theorem dX4_used_27 : decode cX4_used 27 = .ok (.iload_n 3, 1) := by decide +kernel
theorem dX4_used_28 : decode cX4_used 28 = .ok (.invokevirtual 160, 3) := by decide +kernel
theorem dX4_used_31 : decode cX4_used 31 = .ok (.ifCond .le 9, 3) := by decide +kernel
theorem dX4_used_34 : decode cX4_used 34 = .ok (.iload_n 1, 1) := by decide +kernel
theorem dX4_used_35 : decode cX4_used 35 = .ok (.iconst 1, 1) := by decide +kernel
theorem dX4_used_36 : decode cX4_used 36 = .ok (.iadd, 1) := by decide +kernel
theorem dX4_used_37 : decode cX4_used 37 = .ok (.goto 4, 3) := by decide +kernel
theorem dX4_used_40 : decode cX4_used 40 = .ok (.iload_n 1, 1) := by decide +kernel
theorem dX4_used_41 : decode cX4_used 41 = .ok (.istore_n 1, 1) := by decide +kernel
theorem dX4_used_42 : decode cX4_used 42 = .ok (.iinc 3 1, 3) := by decide +kernel
theorem dX4_used_45 : decode cX4_used 45 = .ok (.goto (-26), 3) := by decide +kernel
theorem dX4_used_48 : decode cX4_used 48 = .ok (.iinc 2 1, 3) := by decide +kernel
theorem dX4_used_51 : decode cX4_used 51 = .ok (.goto (-42), 3) := by decide +kernel
theorem dX4_used_54 : decode cX4_used 54 = .ok (.aload_n 0, 1) := by decide +kernel
theorem dX4_used_55 : decode cX4_used 55 = .ok (.getfield 71, 3) := by decide +kernel
theorem dX4_used_58 : decode cX4_used 58 = .ok (.ifCond .ne 5, 3) := by decide +kernel
theorem dX4_used_61 : decode cX4_used 61 = .ok (.fconst 0, 1) := by decide +kernel
theorem dX4_used_62 : decode cX4_used 62 = .ok (.freturn, 1) := by decide +kernel
theorem dX4_used_63 : decode cX4_used 63 = .ok (.iload_n 1, 1) := by decide +kernel
theorem dX4_used_64 : decode cX4_used 64 = .ok (.i2f, 1) := by decide +kernel
theorem dX4_used_65 : decode cX4_used 65 = .ok (.fstore_n 2, 1) := by decide +kernel
theorem dX4_used_66 : decode cX4_used 66 = .ok (.bipush 20, 2) := by decide +kernel
theorem dX4_used_68 : decode cX4_used 68 = .ok (.aload_n 0, 1) := by decide +kernel
theorem dX4_used_69 : decode cX4_used 69 = .ok (.getfield 71, 3) := by decide +kernel
theorem dX4_used_72 : decode cX4_used 72 = .ok (.imul, 1) := by decide +kernel
theorem dX4_used_73 : decode cX4_used 73 = .ok (.i2f, 1) := by decide +kernel
theorem dX4_used_74 : decode cX4_used 74 = .ok (.fstore_n 3, 1) := by decide +kernel
theorem dX4_used_75 : decode cX4_used 75 = .ok (.fload_n 2, 1) := by decide +kernel
theorem dX4_used_76 : decode cX4_used 76 = .ok (.fload_n 3, 1) := by decide +kernel
theorem dX4_used_77 : decode cX4_used 77 = .ok (.fdiv, 1) := by decide +kernel
theorem dX4_used_78 : decode cX4_used 78 = .ok (.freturn, 1) := by decide +kernel
theorem dJ13_bitCount_95d88_0 : decode cJ13_bitCount_95d88 0 = .ok (.lload_n 0, 1) := by decide +kernel
theorem dJ13_bitCount_95d88_1 : decode cJ13_bitCount_95d88 1 = .ok (.lload_n 0, 1) := by decide +kernel
theorem dJ13_bitCount_95d88_2 : decode cJ13_bitCount_95d88 2 = .ok (.iconst 1, 1) := by decide +kernel
theorem dJ13_bitCount_95d88_3 : decode cJ13_bitCount_95d88 3 = .ok (.lushr, 1) := by decide +kernel
theorem dJ13_bitCount_95d88_4 : decode cJ13_bitCount_95d88 4 = .ok (.ldc2_w 314, 3) := by decide +kernel
theorem dJ13_bitCount_95d88_7 : decode cJ13_bitCount_95d88 7 = .ok (.land, 1) := by decide +kernel
theorem dJ13_bitCount_95d88_8 : decode cJ13_bitCount_95d88 8 = .ok (.lsub, 1) := by decide +kernel
theorem dJ13_bitCount_95d88_9 : decode cJ13_bitCount_95d88 9 = .ok (.lstore_n 0, 1) := by decide +kernel
theorem dJ13_bitCount_95d88_10 : decode cJ13_bitCount_95d88 10 = .ok (.lload_n 0, 1) := by decide +kernel
theorem dJ13_bitCount_95d88_11 : decode cJ13_bitCount_95d88 11 = .ok (.ldc2_w 316, 3) := by decide +kernel
theorem dJ13_bitCount_95d88_14 : decode cJ13_bitCount_95d88 14 = .ok (.land, 1) := by decide +kernel
theorem dJ13_bitCount_95d88_15 : decode cJ13_bitCount_95d88 15 = .ok (.lload_n 0, 1) := by decide +kernel
theorem dJ13_bitCount_95d88_16 : decode cJ13_bitCount_95d88 16 = .ok (.iconst 2, 1) := by decide +kernel
theorem dJ13_bitCount_95d88_17 : decode cJ13_bitCount_95d88 17 = .ok (.lushr, 1) := by decide +kernel
theorem dJ13_bitCount_95d88_18 : decode cJ13_bitCount_95d88 18 = .ok (.ldc2_w 316, 3) := by decide +kernel
theorem dJ13_bitCount_95d88_21 : decode cJ13_bitCount_95d88 21 = .ok (.land, 1) := by decide +kernel
theorem dJ13_bitCount_95d88_22 : decode cJ13_bitCount_95d88 22 = .ok (.ladd, 1) := by decide +kernel
theorem dJ13_bitCount_95d88_23 : decode cJ13_bitCount_95d88 23 = .ok (.lstore_n 0, 1) := by decide +kernel
theorem dJ13_bitCount_95d88_24 : decode cJ13_bitCount_95d88 24 = .ok (.lload_n 0, 1) := by decide +kernel
theorem dJ13_bitCount_95d88_25 : decode cJ13_bitCount_95d88 25 = .ok (.lload_n 0, 1) := by decide +kernel
theorem dJ13_bitCount_95d88_26 : decode cJ13_bitCount_95d88 26 = .ok (.iconst 4, 1) := by decide +kernel
theorem dJ13_bitCount_95d88_27 : decode cJ13_bitCount_95d88 27 = .ok (.lushr, 1) := by decide +kernel
theorem dJ13_bitCount_95d88_28 : decode cJ13_bitCount_95d88 28 = .ok (.ladd, 1) := by decide +kernel
theorem dJ13_bitCount_95d88_29 : decode cJ13_bitCount_95d88 29 = .ok (.ldc2_w 318, 3) := by decide +kernel
theorem dJ13_bitCount_95d88_32 : decode cJ13_bitCount_95d88 32 = .ok (.land, 1) := by decide +kernel
theorem dJ13_bitCount_95d88_33 : decode cJ13_bitCount_95d88 33 = .ok (.lstore_n 0, 1) := by decide +kernel
theorem dJ13_bitCount_95d88_34 : decode cJ13_bitCount_95d88 34 = .ok (.lload_n 0, 1) := by decide +kernel
theorem dJ13_bitCount_95d88_35 : decode cJ13_bitCount_95d88 35 = .ok (.lload_n 0, 1) := by decide +kernel
theorem dJ13_bitCount_95d88_36 : decode cJ13_bitCount_95d88 36 = .ok (.bipush 8, 2) := by decide +kernel
theorem dJ13_bitCount_95d88_38 : decode cJ13_bitCount_95d88 38 = .ok (.lushr, 1) := by decide +kernel
theorem dJ13_bitCount_95d88_39 : decode cJ13_bitCount_95d88 39 = .ok (.ladd, 1) := by decide +kernel
theorem dJ13_bitCount_95d88_40 : decode cJ13_bitCount_95d88 40 = .ok (.lstore_n 0, 1) := by decide +kernel
theorem dJ13_bitCount_95d88_41 : decode cJ13_bitCount_95d88 41 = .ok (.lload_n 0, 1) := by decide +kernel
theorem dJ13_bitCount_95d88_42 : decode cJ13_bitCount_95d88 42 = .ok (.lload_n 0, 1) := by decide +kernel
theorem dJ13_bitCount_95d88_43 : decode cJ13_bitCount_95d88 43 = .ok (.bipush 16, 2) := by decide +kernel
theorem dJ13_bitCount_95d88_45 : decode cJ13_bitCount_95d88 45 = .ok (.lushr, 1) := by decide +kernel
theorem dJ13_bitCount_95d88_46 : decode cJ13_bitCount_95d88 46 = .ok (.ladd, 1) := by decide +kernel
theorem dJ13_bitCount_95d88_47 : decode cJ13_bitCount_95d88 47 = .ok (.lstore_n 0, 1) := by decide +kernel
theorem dJ13_bitCount_95d88_48 : decode cJ13_bitCount_95d88 48 = .ok (.lload_n 0, 1) := by decide +kernel
theorem dJ13_bitCount_95d88_49 : decode cJ13_bitCount_95d88 49 = .ok (.lload_n 0, 1) := by decide +kernel
theorem dJ13_bitCount_95d88_50 : decode cJ13_bitCount_95d88 50 = .ok (.bipush 32, 2) := by decide +kernel
theorem dJ13_bitCount_95d88_52 : decode cJ13_bitCount_95d88 52 = .ok (.lushr, 1) := by decide +kernel
theorem dJ13_bitCount_95d88_53 : decode cJ13_bitCount_95d88 53 = .ok (.ladd, 1) := by decide +kernel
theorem dJ13_bitCount_95d88_54 : decode cJ13_bitCount_95d88 54 = .ok (.lstore_n 0, 1) := by decide +kernel
theorem dJ13_bitCount_95d88_55 : decode cJ13_bitCount_95d88 55 = .ok (.lload_n 0, 1) := by decide +kernel
theorem dJ13_bitCount_95d88_56 : decode cJ13_bitCount_95d88 56 = .ok (.l2i, 1) := by decide +kernel
theorem dJ13_bitCount_95d88_57 : decode cJ13_bitCount_95d88 57 = .ok (.bipush 127, 2) := by decide +kernel
theorem dJ13_bitCount_95d88_59 : decode cJ13_bitCount_95d88 59 = .ok (.iand, 1) := by decide +kernel
theorem dJ13_bitCount_95d88_60 : decode cJ13_bitCount_95d88 60 = .ok (.ireturn, 1) := by decide +kernel
theorem dJ9_max_7cf53_0 : decode cJ9_max_7cf53 0 = .ok (.iload_n 0, 1) := by decide +kernel
theorem dJ9_max_7cf53_1 : decode cJ9_max_7cf53 1 = .ok (.iload_n 1, 1) := by decide +kernel
theorem dJ9_max_7cf53_2 : decode cJ9_max_7cf53 2 = .ok (.if_icmp .lt 7, 3) := by decide +kernel
theorem dJ9_max_7cf53_5 : decode cJ9_max_7cf53 5 = .ok (.iload_n 0, 1) := by decide +kernel
theorem dJ9_max_7cf53_6 : decode cJ9_max_7cf53 6 = .ok (.goto 4, 3) := by decide +kernel
theorem dJ9_max_7cf53_9 : decode cJ9_max_7cf53 9 = .ok (.iload_n 1, 1) := by decide +kernel
theorem dJ9_max_7cf53_10 : decode cJ9_max_7cf53 10 = .ok (.ireturn, 1) := by decide +kernel
theorem dJ9_min_7cf53_0 : decode cJ9_min_7cf53 0 = .ok (.iload_n 0, 1) := by decide +kernel
theorem dJ9_min_7cf53_1 : decode cJ9_min_7cf53 1 = .ok (.iload_n 1, 1) := by decide +kernel
theorem dJ9_min_7cf53_2 : decode cJ9_min_7cf53 2 = .ok (.if_icmp .gt 7, 3) := by decide +kernel
theorem dJ9_min_7cf53_5 : decode cJ9_min_7cf53 5 = .ok (.iload_n 0, 1) := by decide +kernel
theorem dJ9_min_7cf53_6 : decode cJ9_min_7cf53 6 = .ok (.goto 4, 3) := by decide +kernel
theorem dJ9_min_7cf53_9 : decode cJ9_min_7cf53 9 = .ok (.iload_n 1, 1) := by decide +kernel
theorem dJ9_min_7cf53_10 : decode cJ9_min_7cf53 10 = .ok (.ireturn, 1) := by decide +kernel
theorem dJ7_fill_d0a16_0 : decode cJ7_fill_d0a16 0 = .ok (.iconst 0, 1) := by decide +kernel
theorem dJ7_fill_d0a16_1 : decode cJ7_fill_d0a16 1 = .ok (.istore_n 3, 1) := by decide +kernel
theorem dJ7_fill_d0a16_2 : decode cJ7_fill_d0a16 2 = .ok (.aload_n 0, 1) := by decide +kernel
theorem dJ7_fill_d0a16_3 : decode cJ7_fill_d0a16 3 = .ok (.arraylength, 1) := by decide +kernel
theorem dJ7_fill_d0a16_4 : decode cJ7_fill_d0a16 4 = .ok (.istore 4, 2) := by decide +kernel
theorem dJ7_fill_d0a16_6 : decode cJ7_fill_d0a16 6 = .ok (.iload_n 3, 1) := by decide +kernel
theorem dJ7_fill_d0a16_7 : decode cJ7_fill_d0a16 7 = .ok (.iload 4, 2) := by decide +kernel
theorem dJ7_fill_d0a16_9 : decode cJ7_fill_d0a16 9 = .ok (.if_icmp .ge 13, 3) := by decide +kernel
theorem dJ7_fill_d0a16_12 : decode cJ7_fill_d0a16 12 = .ok (.aload_n 0, 1) := by decide +kernel
theorem dJ7_fill_d0a16_13 : decode cJ7_fill_d0a16 13 = .ok (.iload_n 3, 1) := by decide +kernel
theorem dJ7_fill_d0a16_14 : decode cJ7_fill_d0a16 14 = .ok (.lload_n 1, 1) := by decide +kernel
theorem dJ7_fill_d0a16_15 : decode cJ7_fill_d0a16 15 = .ok (.lastore, 1) := by decide +kernel
theorem dJ7_fill_d0a16_16 : decode cJ7_fill_d0a16 16 = .ok (.iinc 3 1, 3) := by decide +kernel
theorem dJ7_fill_d0a16_19 : decode cJ7_fill_d0a16 19 = .ok (.goto (-13), 3) := by decide +kernel
theorem dJ7_fill_d0a16_22 : decode cJ7_fill_d0a16 22 = .ok (.return_, 1) := by decide +kernel
theorem dJ7_fill_53178_0 : decode cJ7_fill_53178 0 = .ok (.iconst 0, 1) := by decide +kernel
theorem dJ7_fill_53178_1 : decode cJ7_fill_53178 1 = .ok (.istore_n 2, 1) := by decide +kernel
theorem dJ7_fill_53178_2 : decode cJ7_fill_53178 2 = .ok (.aload_n 0, 1) := by decide +kernel
theorem dJ7_fill_53178_3 : decode cJ7_fill_53178 3 = .ok (.arraylength, 1) := by decide +kernel
theorem dJ7_fill_53178_4 : decode cJ7_fill_53178 4 = .ok (.istore_n 3, 1) := by decide +kernel
theorem dJ7_fill_53178_5 : decode cJ7_fill_53178 5 = .ok (.iload_n 2, 1) := by decide +kernel
theorem dJ7_fill_53178_6 : decode cJ7_fill_53178 6 = .ok (.iload_n 3, 1) := by decide +kernel
theorem dJ7_fill_53178_7 : decode cJ7_fill_53178 7 = .ok (.if_icmp .ge 13, 3) := by decide +kernel
theorem dJ7_fill_53178_10 : decode cJ7_fill_53178 10 = .ok (.aload_n 0, 1) := by decide +kernel
theorem dJ7_fill_53178_11 : decode cJ7_fill_53178 11 = .ok (.iload_n 2, 1) := by decide +kernel
theorem dJ7_fill_53178_12 : decode cJ7_fill_53178 12 = .ok (.iload_n 1, 1) := by decide +kernel
theorem dJ7_fill_53178_13 : decode cJ7_fill_53178 13 = .ok (.iastore, 1) := by decide +kernel
theorem dJ7_fill_53178_14 : decode cJ7_fill_53178 14 = .ok (.iinc 2 1, 3) := by decide +kernel
theorem dJ7_fill_53178_17 : decode cJ7_fill_53178 17 = .ok (.goto (-12), 3) := by decide +kernel
theorem dJ7_fill_53178_20 : decode cJ7_fill_53178 20 = .ok (.return_, 1) := by decide +kernel
theorem dL_pin_0 : decode cL_pin 0 = .ok (.aload 4, 2) := by decide +kernel
theorem dL_pin_2 : decode cL_pin 2 = .ok (.iconst 0, 1) := by decide +kernel
theorem dL_pin_3 : decode cL_pin 3 = .ok (.aload_n 0, 1) := by decide +kernel
theorem dL_pin_4 : decode cL_pin 4 = .ok (.iload_n 1, 1) := by decide +kernel
theorem dL_pin_5 : decode cL_pin 5 = .ok (.iload_n 2, 1) := by decide +kernel
theorem dL_pin_6 : decode cL_pin 6 = .ok (.iload_n 3, 1) := by decide +kernel
theorem dL_pin_7 : decode cL_pin 7 = .ok (.invokevirtual 7, 3) := by decide +kernel
theorem dL_pin_10 : decode cL_pin 10 = .ok (.i2l, 1) := by decide +kernel
theorem dL_pin_11 : decode cL_pin 11 = .ok (.lastore, 1) := by decide +kernel
theorem dL_pin_12 : decode cL_pin 12 = .ok (.goto 11, 3) := by decide +kernel
theorem dL_pin_15 : decode cL_pin 15 = .ok (.astore 5, 2) := by decide +kernel
theorem dL_pin_17 : decode cL_pin 17 = .ok (.iconst 1, 1) := by decide +kernel
theorem dL_pin_18 : decode cL_pin 18 = .ok (.ireturn, 1) := by decide +kernel
theorem dL_pin_19 : decode cL_pin 19 = .ok (.astore 5, 2) := by decide +kernel
theorem dL_pin_21 : decode cL_pin 21 = .ok (.iconst 2, 1) := by decide +kernel
theorem dL_pin_22 : decode cL_pin 22 = .ok (.ireturn, 1) := by decide +kernel
theorem dL_pin_23 : decode cL_pin 23 = .ok (.iconst 0, 1) := by decide +kernel
theorem dL_pin_24 : decode cL_pin 24 = .ok (.ireturn, 1) := by decide +kernel
theorem dL_lay_0 : decode cL_lay 0 = .ok (.aload_n 2, 1) := by decide +kernel
theorem dL_lay_1 : decode cL_lay 1 = .ok (.iconst 0, 1) := by decide +kernel
theorem dL_lay_2 : decode cL_lay 2 = .ok (.aload_n 0, 1) := by decide +kernel
theorem dL_lay_3 : decode cL_lay 3 = .ok (.iload_n 1, 1) := by decide +kernel
theorem dL_lay_4 : decode cL_lay 4 = .ok (.invokevirtual 17, 3) := by decide +kernel
theorem dL_lay_7 : decode cL_lay 7 = .ok (.i2l, 1) := by decide +kernel
theorem dL_lay_8 : decode cL_lay 8 = .ok (.lastore, 1) := by decide +kernel
theorem dL_lay_9 : decode cL_lay 9 = .ok (.goto 9, 3) := by decide +kernel
theorem dL_lay_12 : decode cL_lay 12 = .ok (.astore_n 3, 1) := by decide +kernel
theorem dL_lay_13 : decode cL_lay 13 = .ok (.iconst 1, 1) := by decide +kernel
theorem dL_lay_14 : decode cL_lay 14 = .ok (.ireturn, 1) := by decide +kernel
theorem dL_lay_15 : decode cL_lay 15 = .ok (.astore_n 3, 1) := by decide +kernel
theorem dL_lay_16 : decode cL_lay 16 = .ok (.iconst 2, 1) := by decide +kernel
theorem dL_lay_17 : decode cL_lay 17 = .ok (.ireturn, 1) := by decide +kernel
theorem dL_lay_18 : decode cL_lay 18 = .ok (.iconst 0, 1) := by decide +kernel
theorem dL_lay_19 : decode cL_lay 19 = .ok (.ireturn, 1) := by decide +kernel
theorem dL_layAny_0 : decode cL_layAny 0 = .ok (.aload_n 1, 1) := by decide +kernel
theorem dL_layAny_1 : decode cL_layAny 1 = .ok (.iconst 0, 1) := by decide +kernel
theorem dL_layAny_2 : decode cL_layAny 2 = .ok (.aload_n 0, 1) := by decide +kernel
theorem dL_layAny_3 : decode cL_layAny 3 = .ok (.invokevirtual 23, 3) := by decide +kernel
theorem dL_layAny_6 : decode cL_layAny 6 = .ok (.i2l, 1) := by decide +kernel
theorem dL_layAny_7 : decode cL_layAny 7 = .ok (.lastore, 1) := by decide +kernel
theorem dL_layAny_8 : decode cL_layAny 8 = .ok (.goto 9, 3) := by decide +kernel
theorem dL_layAny_11 : decode cL_layAny 11 = .ok (.astore_n 2, 1) := by decide +kernel
theorem dL_layAny_12 : decode cL_layAny 12 = .ok (.iconst 1, 1) := by decide +kernel
theorem dL_layAny_13 : decode cL_layAny 13 = .ok (.ireturn, 1) := by decide +kernel
theorem dL_layAny_14 : decode cL_layAny 14 = .ok (.astore_n 2, 1) := by decide +kernel
theorem dL_layAny_15 : decode cL_layAny 15 = .ok (.iconst 2, 1) := by decide +kernel
theorem dL_layAny_16 : decode cL_layAny 16 = .ok (.ireturn, 1) := by decide +kernel
theorem dL_layAny_17 : decode cL_layAny 17 = .ok (.iconst 0, 1) := by decide +kernel
theorem dL_layAny_18 : decode cL_layAny 18 = .ok (.ireturn, 1) := by decide +kernel
theorem dL_segment_0 : decode cL_segment 0 = .ok (.aload_n 3, 1) := by decide +kernel
theorem dL_segment_1 : decode cL_segment 1 = .ok (.iconst 0, 1) := by decide +kernel
theorem dL_segment_2 : decode cL_segment 2 = .ok (.aload_n 0, 1) := by decide +kernel
theorem dL_segment_3 : decode cL_segment 3 = .ok (.iload_n 1, 1) := by decide +kernel
theorem dL_segment_4 : decode cL_segment 4 = .ok (.iload_n 2, 1) := by decide +kernel
theorem dL_segment_5 : decode cL_segment 5 = .ok (.invokevirtual 27, 3) := by decide +kernel
theorem dL_segment_8 : decode cL_segment 8 = .ok (.i2l, 1) := by decide +kernel
theorem dL_segment_9 : decode cL_segment 9 = .ok (.lastore, 1) := by decide +kernel
theorem dL_segment_10 : decode cL_segment 10 = .ok (.goto 7, 3) := by decide +kernel
theorem dL_segment_13 : decode cL_segment 13 = .ok (.astore 4, 2) := by decide +kernel
theorem dL_segment_15 : decode cL_segment 15 = .ok (.iconst 1, 1) := by decide +kernel
theorem dL_segment_16 : decode cL_segment 16 = .ok (.ireturn, 1) := by decide +kernel
theorem dL_segment_17 : decode cL_segment 17 = .ok (.iconst 0, 1) := by decide +kernel
theorem dL_segment_18 : decode cL_segment 18 = .ok (.ireturn, 1) := by decide +kernel
theorem dL_level_0 : decode cL_level 0 = .ok (.aload_n 3, 1) := by decide +kernel
theorem dL_level_1 : decode cL_level 1 = .ok (.iconst 0, 1) := by decide +kernel
theorem dL_level_2 : decode cL_level 2 = .ok (.aload_n 0, 1) := by decide +kernel
theorem dL_level_3 : decode cL_level 3 = .ok (.iload_n 1, 1) := by decide +kernel
theorem dL_level_4 : decode cL_level 4 = .ok (.iload_n 2, 1) := by decide +kernel
theorem dL_level_5 : decode cL_level 5 = .ok (.invokevirtual 31, 3) := by decide +kernel
theorem dL_level_8 : decode cL_level 8 = .ok (.i2l, 1) := by decide +kernel
theorem dL_level_9 : decode cL_level 9 = .ok (.lastore, 1) := by decide +kernel
theorem dL_level_10 : decode cL_level 10 = .ok (.goto 7, 3) := by decide +kernel
theorem dL_level_13 : decode cL_level 13 = .ok (.astore 4, 2) := by decide +kernel
theorem dL_level_15 : decode cL_level 15 = .ok (.iconst 1, 1) := by decide +kernel
theorem dL_level_16 : decode cL_level 16 = .ok (.ireturn, 1) := by decide +kernel
theorem dL_level_17 : decode cL_level 17 = .ok (.iconst 0, 1) := by decide +kernel
theorem dL_level_18 : decode cL_level 18 = .ok (.ireturn, 1) := by decide +kernel
theorem dL_upright_0 : decode cL_upright 0 = .ok (.aload_n 3, 1) := by decide +kernel
theorem dL_upright_1 : decode cL_upright 1 = .ok (.iconst 0, 1) := by decide +kernel
theorem dL_upright_2 : decode cL_upright 2 = .ok (.aload_n 0, 1) := by decide +kernel
theorem dL_upright_3 : decode cL_upright 3 = .ok (.iload_n 1, 1) := by decide +kernel
theorem dL_upright_4 : decode cL_upright 4 = .ok (.iload_n 2, 1) := by decide +kernel
theorem dL_upright_5 : decode cL_upright 5 = .ok (.invokevirtual 34, 3) := by decide +kernel
theorem dL_upright_8 : decode cL_upright 8 = .ok (.i2l, 1) := by decide +kernel
theorem dL_upright_9 : decode cL_upright 9 = .ok (.lastore, 1) := by decide +kernel
theorem dL_upright_10 : decode cL_upright 10 = .ok (.goto 7, 3) := by decide +kernel
theorem dL_upright_13 : decode cL_upright 13 = .ok (.astore 4, 2) := by decide +kernel
theorem dL_upright_15 : decode cL_upright 15 = .ok (.iconst 1, 1) := by decide +kernel
theorem dL_upright_16 : decode cL_upright 16 = .ok (.ireturn, 1) := by decide +kernel
theorem dL_upright_17 : decode cL_upright 17 = .ok (.iconst 0, 1) := by decide +kernel
theorem dL_upright_18 : decode cL_upright 18 = .ok (.ireturn, 1) := by decide +kernel
theorem dL_via_0 : decode cL_via 0 = .ok (.aload_n 3, 1) := by decide +kernel
theorem dL_via_1 : decode cL_via 1 = .ok (.iconst 0, 1) := by decide +kernel
theorem dL_via_2 : decode cL_via 2 = .ok (.aload_n 0, 1) := by decide +kernel
theorem dL_via_3 : decode cL_via 3 = .ok (.iload_n 1, 1) := by decide +kernel
theorem dL_via_4 : decode cL_via 4 = .ok (.iload_n 2, 1) := by decide +kernel
theorem dL_via_5 : decode cL_via 5 = .ok (.invokevirtual 37, 3) := by decide +kernel
theorem dL_via_8 : decode cL_via 8 = .ok (.ifCond .eq 7, 3) := by decide +kernel
theorem dL_via_11 : decode cL_via 11 = .ok (.lconst 1, 1) := by decide +kernel
theorem dL_via_12 : decode cL_via 12 = .ok (.goto 4, 3) := by decide +kernel
theorem dL_via_15 : decode cL_via 15 = .ok (.lconst 0, 1) := by decide +kernel
theorem dL_via_16 : decode cL_via 16 = .ok (.lastore, 1) := by decide +kernel
theorem dL_via_17 : decode cL_via 17 = .ok (.goto 7, 3) := by decide +kernel
theorem dL_via_20 : decode cL_via 20 = .ok (.astore 4, 2) := by decide +kernel
theorem dL_via_22 : decode cL_via 22 = .ok (.iconst 1, 1) := by decide +kernel
theorem dL_via_23 : decode cL_via 23 = .ok (.ireturn, 1) := by decide +kernel
theorem dL_via_24 : decode cL_via 24 = .ok (.iconst 0, 1) := by decide +kernel
theorem dL_via_25 : decode cL_via 25 = .ok (.ireturn, 1) := by decide +kernel
theorem dL_net_0 : decode cL_net 0 = .ok (.aload_n 3, 1) := by decide +kernel
theorem dL_net_1 : decode cL_net 1 = .ok (.iconst 0, 1) := by decide +kernel
theorem dL_net_2 : decode cL_net 2 = .ok (.aload_n 0, 1) := by decide +kernel
theorem dL_net_3 : decode cL_net 3 = .ok (.iload_n 1, 1) := by decide +kernel
theorem dL_net_4 : decode cL_net 4 = .ok (.iload_n 2, 1) := by decide +kernel
theorem dL_net_5 : decode cL_net 5 = .ok (.invokevirtual 41, 3) := by decide +kernel
theorem dL_net_8 : decode cL_net 8 = .ok (.i2l, 1) := by decide +kernel
theorem dL_net_9 : decode cL_net 9 = .ok (.lastore, 1) := by decide +kernel
theorem dL_net_10 : decode cL_net 10 = .ok (.goto 7, 3) := by decide +kernel
theorem dL_net_13 : decode cL_net 13 = .ok (.astore 4, 2) := by decide +kernel
theorem dL_net_15 : decode cL_net 15 = .ok (.iconst 1, 1) := by decide +kernel
theorem dL_net_16 : decode cL_net 16 = .ok (.ireturn, 1) := by decide +kernel
theorem dL_net_17 : decode cL_net 17 = .ok (.iconst 0, 1) := by decide +kernel
theorem dL_net_18 : decode cL_net 18 = .ok (.ireturn, 1) := by decide +kernel
theorem dL_count_0 : decode cL_count 0 = .ok (.aload_n 2, 1) := by decide +kernel
theorem dL_count_1 : decode cL_count 1 = .ok (.iconst 0, 1) := by decide +kernel
theorem dL_count_2 : decode cL_count 2 = .ok (.aload_n 0, 1) := by decide +kernel
theorem dL_count_3 : decode cL_count 3 = .ok (.iload_n 1, 1) := by decide +kernel
theorem dL_count_4 : decode cL_count 4 = .ok (.invokevirtual 44, 3) := by decide +kernel
theorem dL_count_7 : decode cL_count 7 = .ok (.i2l, 1) := by decide +kernel
theorem dL_count_8 : decode cL_count 8 = .ok (.lastore, 1) := by decide +kernel
theorem dL_count_9 : decode cL_count 9 = .ok (.goto 6, 3) := by decide +kernel
theorem dL_count_12 : decode cL_count 12 = .ok (.astore_n 3, 1) := by decide +kernel
theorem dL_count_13 : decode cL_count 13 = .ok (.iconst 1, 1) := by decide +kernel
theorem dL_count_14 : decode cL_count 14 = .ok (.ireturn, 1) := by decide +kernel
theorem dL_count_15 : decode cL_count 15 = .ok (.iconst 0, 1) := by decide +kernel
theorem dL_count_16 : decode cL_count 16 = .ok (.ireturn, 1) := by decide +kernel
theorem dL_law_0 : decode cL_law 0 = .ok (.new 8, 3) := by decide +kernel
theorem dL_law_3 : decode cL_law 3 = .ok (.dup, 1) := by decide +kernel
theorem dL_law_4 : decode cL_law 4 = .ok (.invokespecial 48, 3) := by decide +kernel
theorem dL_law_7 : decode cL_law 7 = .ok (.astore_n 1, 1) := by decide +kernel
theorem dL_law_8 : decode cL_law 8 = .ok (.new 49, 3) := by decide +kernel
theorem dL_law_11 : decode cL_law 11 = .ok (.dup, 1) := by decide +kernel
theorem dL_law_12 : decode cL_law 12 = .ok (.invokespecial 51, 3) := by decide +kernel
theorem dL_law_15 : decode cL_law 15 = .ok (.astore_n 2, 1) := by decide +kernel
theorem dL_law_16 : decode cL_law 16 = .ok (.iconst 1, 1) := by decide +kernel
theorem dL_law_17 : decode cL_law 17 = .ok (.newarray .long, 2) := by decide +kernel
theorem dL_law_19 : decode cL_law 19 = .ok (.astore_n 3, 1) := by decide +kernel
theorem dL_law_20 : decode cL_law 20 = .ok (.iconst 0, 1) := by decide +kernel
theorem dL_law_21 : decode cL_law 21 = .ok (.istore 4, 2) := by decide +kernel
theorem dL_law_23 : decode cL_law 23 = .ok (.iload 4, 2) := by decide +kernel
theorem dL_law_25 : decode cL_law 25 = .ok (.aload_n 0, 1) := by decide +kernel
theorem dL_law_26 : decode cL_law 26 = .ok (.arraylength, 1) := by decide +kernel
theorem dL_law_27 : decode cL_law 27 = .ok (.iconst 4, 1) := by decide +kernel
theorem dL_law_28 : decode cL_law 28 = .ok (.isub, 1) := by decide +kernel
theorem dL_law_29 : decode cL_law 29 = .ok (.if_icmp .gt 818, 3) := by decide +kernel
theorem dL_law_32 : decode cL_law 32 = .ok (.aload_n 0, 1) := by decide +kernel
theorem dL_law_33 : decode cL_law 33 = .ok (.iload 4, 2) := by decide +kernel
theorem dL_law_35 : decode cL_law 35 = .ok (.iaload, 1) := by decide +kernel
theorem dL_law_36 : decode cL_law 36 = .ok (.bipush 15, 2) := by decide +kernel
theorem dL_law_38 : decode cL_law 38 = .ok (.iand, 1) := by decide +kernel
theorem dL_law_39 : decode cL_law 39 = .ok (.tableswitch 802 0 12 #[65, 161, 233, 277, 302, 370, 438, 506, 581, 594, 635, 703, 759], 65) := by decide +kernel
theorem dL_law_104 : decode cL_law 104 = .ok (.aload_n 1, 1) := by decide +kernel
theorem dL_law_105 : decode cL_law 105 = .ok (.aload_n 0, 1) := by decide +kernel
theorem dL_law_106 : decode cL_law 106 = .ok (.iload 4, 2) := by decide +kernel
theorem dL_law_108 : decode cL_law 108 = .ok (.iconst 1, 1) := by decide +kernel
theorem dL_law_109 : decode cL_law 109 = .ok (.iadd, 1) := by decide +kernel
theorem dL_law_110 : decode cL_law 110 = .ok (.iaload, 1) := by decide +kernel
theorem dL_law_111 : decode cL_law 111 = .ok (.aload_n 0, 1) := by decide +kernel
theorem dL_law_112 : decode cL_law 112 = .ok (.iload 4, 2) := by decide +kernel
theorem dL_law_114 : decode cL_law 114 = .ok (.iconst 2, 1) := by decide +kernel
theorem dL_law_115 : decode cL_law 115 = .ok (.iadd, 1) := by decide +kernel
theorem dL_law_116 : decode cL_law 116 = .ok (.iaload, 1) := by decide +kernel
theorem dL_law_117 : decode cL_law 117 = .ok (.ifCond .eq 7, 3) := by decide +kernel
theorem dL_law_120 : decode cL_law 120 = .ok (.iconst 1, 1) := by decide +kernel
theorem dL_law_121 : decode cL_law 121 = .ok (.goto 4, 3) := by decide +kernel
theorem dL_law_124 : decode cL_law 124 = .ok (.iconst 0, 1) := by decide +kernel
theorem dL_law_125 : decode cL_law 125 = .ok (.aload_n 0, 1) := by decide +kernel
theorem dL_law_126 : decode cL_law 126 = .ok (.iload 4, 2) := by decide +kernel
theorem dL_law_128 : decode cL_law 128 = .ok (.iconst 3, 1) := by decide +kernel
theorem dL_law_129 : decode cL_law 129 = .ok (.iadd, 1) := by decide +kernel
theorem dL_law_130 : decode cL_law 130 = .ok (.iaload, 1) := by decide +kernel
theorem dL_law_131 : decode cL_law 131 = .ok (.aload_n 3, 1) := by decide +kernel
theorem dL_law_132 : decode cL_law 132 = .ok (.invokestatic 52, 3) := by decide +kernel
theorem dL_law_135 : decode cL_law 135 = .ok (.istore 5, 2) := by decide +kernel
theorem dL_law_137 : decode cL_law 137 = .ok (.aload_n 2, 1) := by decide +kernel
theorem dL_law_138 : decode cL_law 138 = .ok (.aload_n 0, 1) := by decide +kernel
theorem dL_law_139 : decode cL_law 139 = .ok (.iload 4, 2) := by decide +kernel
theorem dL_law_141 : decode cL_law 141 = .ok (.iconst 1, 1) := by decide +kernel
theorem dL_law_142 : decode cL_law 142 = .ok (.iadd, 1) := by decide +kernel
theorem dL_law_143 : decode cL_law 143 = .ok (.iaload, 1) := by decide +kernel
theorem dL_law_144 : decode cL_law 144 = .ok (.aload_n 0, 1) := by decide +kernel
theorem dL_law_145 : decode cL_law 145 = .ok (.iload 4, 2) := by decide +kernel
theorem dL_law_147 : decode cL_law 147 = .ok (.iconst 2, 1) := by decide +kernel
theorem dL_law_148 : decode cL_law 148 = .ok (.iadd, 1) := by decide +kernel
theorem dL_law_149 : decode cL_law 149 = .ok (.iaload, 1) := by decide +kernel
theorem dL_law_150 : decode cL_law 150 = .ok (.ifCond .eq 7, 3) := by decide +kernel
theorem dL_law_153 : decode cL_law 153 = .ok (.iconst 1, 1) := by decide +kernel
theorem dL_law_154 : decode cL_law 154 = .ok (.goto 4, 3) := by decide +kernel
theorem dL_law_157 : decode cL_law 157 = .ok (.iconst 0, 1) := by decide +kernel
theorem dL_law_158 : decode cL_law 158 = .ok (.aload_n 0, 1) := by decide +kernel
theorem dL_law_159 : decode cL_law 159 = .ok (.iload 4, 2) := by decide +kernel
theorem dL_law_161 : decode cL_law 161 = .ok (.iconst 3, 1) := by decide +kernel
theorem dL_law_162 : decode cL_law 162 = .ok (.iadd, 1) := by decide +kernel
theorem dL_law_163 : decode cL_law 163 = .ok (.iaload, 1) := by decide +kernel
theorem dL_law_164 : decode cL_law 164 = .ok (.invokevirtual 57, 3) := by decide +kernel
theorem dL_law_167 : decode cL_law 167 = .ok (.istore 6, 2) := by decide +kernel
theorem dL_law_169 : decode cL_law 169 = .ok (.aload_n 2, 1) := by decide +kernel
theorem dL_law_170 : decode cL_law 170 = .ok (.invokevirtual 58, 3) := by decide +kernel
theorem dL_law_173 : decode cL_law 173 = .ok (.iload 5, 2) := by decide +kernel
theorem dL_law_175 : decode cL_law 175 = .ok (.if_icmp .eq 5, 3) := by decide +kernel
theorem dL_law_178 : decode cL_law 178 = .ok (.iconst 0, 1) := by decide +kernel
theorem dL_law_179 : decode cL_law 179 = .ok (.ireturn, 1) := by decide +kernel
theorem dL_law_180 : decode cL_law 180 = .ok (.iload 5, 2) := by decide +kernel
theorem dL_law_182 : decode cL_law 182 = .ok (.ifCond .ne 15, 3) := by decide +kernel
theorem dL_law_185 : decode cL_law 185 = .ok (.aload_n 3, 1) := by decide +kernel
theorem dL_law_186 : decode cL_law 186 = .ok (.iconst 0, 1) := by decide +kernel
theorem dL_law_187 : decode cL_law 187 = .ok (.laload, 1) := by decide +kernel
theorem dL_law_188 : decode cL_law 188 = .ok (.iload 6, 2) := by decide +kernel
theorem dL_law_190 : decode cL_law 190 = .ok (.i2l, 1) := by decide +kernel
theorem dL_law_191 : decode cL_law 191 = .ok (.lcmp, 1) := by decide +kernel
theorem dL_law_192 : decode cL_law 192 = .ok (.ifCond .eq 5, 3) := by decide +kernel
theorem dL_law_195 : decode cL_law 195 = .ok (.iconst 0, 1) := by decide +kernel
theorem dL_law_196 : decode cL_law 196 = .ok (.ireturn, 1) := by decide +kernel
theorem dL_law_197 : decode cL_law 197 = .ok (.goto 644, 3) := by decide +kernel
theorem dL_law_200 : decode cL_law 200 = .ok (.aload_n 1, 1) := by decide +kernel
theorem dL_law_201 : decode cL_law 201 = .ok (.aload_n 0, 1) := by decide +kernel
theorem dL_law_202 : decode cL_law 202 = .ok (.iload 4, 2) := by decide +kernel
theorem dL_law_204 : decode cL_law 204 = .ok (.iconst 1, 1) := by decide +kernel
theorem dL_law_205 : decode cL_law 205 = .ok (.iadd, 1) := by decide +kernel
theorem dL_law_206 : decode cL_law 206 = .ok (.iaload, 1) := by decide +kernel
theorem dL_law_207 : decode cL_law 207 = .ok (.ifCond .eq 7, 3) := by decide +kernel
theorem dL_law_210 : decode cL_law 210 = .ok (.iconst 1, 1) := by decide +kernel
theorem dL_law_211 : decode cL_law 211 = .ok (.goto 4, 3) := by decide +kernel
theorem dL_law_214 : decode cL_law 214 = .ok (.iconst 0, 1) := by decide +kernel
theorem dL_law_215 : decode cL_law 215 = .ok (.aload_n 3, 1) := by decide +kernel
theorem dL_law_216 : decode cL_law 216 = .ok (.invokestatic 61, 3) := by decide +kernel
theorem dL_law_219 : decode cL_law 219 = .ok (.istore 5, 2) := by decide +kernel
theorem dL_law_221 : decode cL_law 221 = .ok (.aload_n 2, 1) := by decide +kernel
theorem dL_law_222 : decode cL_law 222 = .ok (.aload_n 0, 1) := by decide +kernel
theorem dL_law_223 : decode cL_law 223 = .ok (.iload 4, 2) := by decide +kernel
theorem dL_law_225 : decode cL_law 225 = .ok (.iconst 1, 1) := by decide +kernel
theorem dL_law_226 : decode cL_law 226 = .ok (.iadd, 1) := by decide +kernel
theorem dL_law_227 : decode cL_law 227 = .ok (.iaload, 1) := by decide +kernel
theorem dL_law_228 : decode cL_law 228 = .ok (.ifCond .eq 7, 3) := by decide +kernel
theorem dL_law_231 : decode cL_law 231 = .ok (.iconst 1, 1) := by decide +kernel
theorem dL_law_232 : decode cL_law 232 = .ok (.goto 4, 3) := by decide +kernel
theorem dL_law_235 : decode cL_law 235 = .ok (.iconst 0, 1) := by decide +kernel
theorem dL_law_236 : decode cL_law 236 = .ok (.invokevirtual 64, 3) := by decide +kernel
theorem dL_law_239 : decode cL_law 239 = .ok (.istore 6, 2) := by decide +kernel
theorem dL_law_241 : decode cL_law 241 = .ok (.aload_n 2, 1) := by decide +kernel
theorem dL_law_242 : decode cL_law 242 = .ok (.invokevirtual 58, 3) := by decide +kernel
theorem dL_law_245 : decode cL_law 245 = .ok (.iload 5, 2) := by decide +kernel
theorem dL_law_247 : decode cL_law 247 = .ok (.if_icmp .eq 5, 3) := by decide +kernel
theorem dL_law_250 : decode cL_law 250 = .ok (.iconst 0, 1) := by decide +kernel
theorem dL_law_251 : decode cL_law 251 = .ok (.ireturn, 1) := by decide +kernel
theorem dL_law_252 : decode cL_law 252 = .ok (.iload 5, 2) := by decide +kernel
theorem dL_law_254 : decode cL_law 254 = .ok (.ifCond .ne 15, 3) := by decide +kernel
theorem dL_law_257 : decode cL_law 257 = .ok (.aload_n 3, 1) := by decide +kernel
theorem dL_law_258 : decode cL_law 258 = .ok (.iconst 0, 1) := by decide +kernel
theorem dL_law_259 : decode cL_law 259 = .ok (.laload, 1) := by decide +kernel
theorem dL_law_260 : decode cL_law 260 = .ok (.iload 6, 2) := by decide +kernel
theorem dL_law_262 : decode cL_law 262 = .ok (.i2l, 1) := by decide +kernel
theorem dL_law_263 : decode cL_law 263 = .ok (.lcmp, 1) := by decide +kernel
theorem dL_law_264 : decode cL_law 264 = .ok (.ifCond .eq 5, 3) := by decide +kernel
theorem dL_law_267 : decode cL_law 267 = .ok (.iconst 0, 1) := by decide +kernel
theorem dL_law_268 : decode cL_law 268 = .ok (.ireturn, 1) := by decide +kernel
theorem dL_law_269 : decode cL_law 269 = .ok (.goto 572, 3) := by decide +kernel
theorem dL_law_272 : decode cL_law 272 = .ok (.aload_n 1, 1) := by decide +kernel
theorem dL_law_273 : decode cL_law 273 = .ok (.aload_n 3, 1) := by decide +kernel
theorem dL_law_274 : decode cL_law 274 = .ok (.invokestatic 65, 3) := by decide +kernel
theorem dL_law_277 : decode cL_law 277 = .ok (.istore 5, 2) := by decide +kernel
theorem dL_law_279 : decode cL_law 279 = .ok (.aload_n 2, 1) := by decide +kernel
theorem dL_law_280 : decode cL_law 280 = .ok (.invokevirtual 68, 3) := by decide +kernel
theorem dL_law_283 : decode cL_law 283 = .ok (.istore 6, 2) := by decide +kernel
theorem dL_law_285 : decode cL_law 285 = .ok (.aload_n 2, 1) := by decide +kernel
theorem dL_law_286 : decode cL_law 286 = .ok (.invokevirtual 58, 3) := by decide +kernel
theorem dL_law_289 : decode cL_law 289 = .ok (.iload 5, 2) := by decide +kernel
theorem dL_law_291 : decode cL_law 291 = .ok (.if_icmp .eq 5, 3) := by decide +kernel
theorem dL_law_294 : decode cL_law 294 = .ok (.iconst 0, 1) := by decide +kernel
theorem dL_law_295 : decode cL_law 295 = .ok (.ireturn, 1) := by decide +kernel
theorem dL_law_296 : decode cL_law 296 = .ok (.iload 5, 2) := by decide +kernel
theorem dL_law_298 : decode cL_law 298 = .ok (.ifCond .ne 15, 3) := by decide +kernel
theorem dL_law_301 : decode cL_law 301 = .ok (.aload_n 3, 1) := by decide +kernel
theorem dL_law_302 : decode cL_law 302 = .ok (.iconst 0, 1) := by decide +kernel
theorem dL_law_303 : decode cL_law 303 = .ok (.laload, 1) := by decide +kernel
theorem dL_law_304 : decode cL_law 304 = .ok (.iload 6, 2) := by decide +kernel
theorem dL_law_306 : decode cL_law 306 = .ok (.i2l, 1) := by decide +kernel
theorem dL_law_307 : decode cL_law 307 = .ok (.lcmp, 1) := by decide +kernel
theorem dL_law_308 : decode cL_law 308 = .ok (.ifCond .eq 5, 3) := by decide +kernel
theorem dL_law_311 : decode cL_law 311 = .ok (.iconst 0, 1) := by decide +kernel
theorem dL_law_312 : decode cL_law 312 = .ok (.ireturn, 1) := by decide +kernel
theorem dL_law_313 : decode cL_law 313 = .ok (.goto 528, 3) := by decide +kernel
theorem dL_law_316 : decode cL_law 316 = .ok (.aload_n 1, 1) := by decide +kernel
theorem dL_law_317 : decode cL_law 317 = .ok (.aload_n 0, 1) := by decide +kernel
theorem dL_law_318 : decode cL_law 318 = .ok (.iload 4, 2) := by decide +kernel
theorem dL_law_320 : decode cL_law 320 = .ok (.iconst 1, 1) := by decide +kernel
theorem dL_law_321 : decode cL_law 321 = .ok (.iadd, 1) := by decide +kernel
theorem dL_law_322 : decode cL_law 322 = .ok (.iaload, 1) := by decide +kernel
theorem dL_law_323 : decode cL_law 323 = .ok (.invokevirtual 69, 3) := by decide +kernel
theorem dL_law_326 : decode cL_law 326 = .ok (.aload_n 2, 1) := by decide +kernel
theorem dL_law_327 : decode cL_law 327 = .ok (.aload_n 0, 1) := by decide +kernel
theorem dL_law_328 : decode cL_law 328 = .ok (.iload 4, 2) := by decide +kernel
theorem dL_law_330 : decode cL_law 330 = .ok (.iconst 1, 1) := by decide +kernel
theorem dL_law_331 : decode cL_law 331 = .ok (.iadd, 1) := by decide +kernel
theorem dL_law_332 : decode cL_law 332 = .ok (.iaload, 1) := by decide +kernel
theorem dL_law_333 : decode cL_law 333 = .ok (.invokevirtual 72, 3) := by decide +kernel
theorem dL_law_336 : decode cL_law 336 = .ok (.if_icmp .eq 505, 3) := by decide +kernel
theorem dL_law_339 : decode cL_law 339 = .ok (.iconst 0, 1) := by decide +kernel
theorem dL_law_340 : decode cL_law 340 = .ok (.ireturn, 1) := by decide +kernel
theorem dL_law_341 : decode cL_law 341 = .ok (.aload_n 1, 1) := by decide +kernel
theorem dL_law_342 : decode cL_law 342 = .ok (.aload_n 0, 1) := by decide +kernel
theorem dL_law_343 : decode cL_law 343 = .ok (.iload 4, 2) := by decide +kernel
theorem dL_law_345 : decode cL_law 345 = .ok (.iconst 1, 1) := by decide +kernel
theorem dL_law_346 : decode cL_law 346 = .ok (.iadd, 1) := by decide +kernel
theorem dL_law_347 : decode cL_law 347 = .ok (.iaload, 1) := by decide +kernel
theorem dL_law_348 : decode cL_law 348 = .ok (.aload_n 0, 1) := by decide +kernel
theorem dL_law_349 : decode cL_law 349 = .ok (.iload 4, 2) := by decide +kernel
theorem dL_law_351 : decode cL_law 351 = .ok (.iconst 2, 1) := by decide +kernel
theorem dL_law_352 : decode cL_law 352 = .ok (.iadd, 1) := by decide +kernel
theorem dL_law_353 : decode cL_law 353 = .ok (.iaload, 1) := by decide +kernel
theorem dL_law_354 : decode cL_law 354 = .ok (.aload_n 3, 1) := by decide +kernel
theorem dL_law_355 : decode cL_law 355 = .ok (.invokestatic 73, 3) := by decide +kernel
theorem dL_law_358 : decode cL_law 358 = .ok (.istore 5, 2) := by decide +kernel
theorem dL_law_360 : decode cL_law 360 = .ok (.aload_n 2, 1) := by decide +kernel
theorem dL_law_361 : decode cL_law 361 = .ok (.aload_n 0, 1) := by decide +kernel
theorem dL_law_362 : decode cL_law 362 = .ok (.iload 4, 2) := by decide +kernel
theorem dL_law_364 : decode cL_law 364 = .ok (.iconst 1, 1) := by decide +kernel
theorem dL_law_365 : decode cL_law 365 = .ok (.iadd, 1) := by decide +kernel
theorem dL_law_366 : decode cL_law 366 = .ok (.iaload, 1) := by decide +kernel
theorem dL_law_367 : decode cL_law 367 = .ok (.aload_n 0, 1) := by decide +kernel
theorem dL_law_368 : decode cL_law 368 = .ok (.iload 4, 2) := by decide +kernel
theorem dL_law_370 : decode cL_law 370 = .ok (.iconst 2, 1) := by decide +kernel
theorem dL_law_371 : decode cL_law 371 = .ok (.iadd, 1) := by decide +kernel
theorem dL_law_372 : decode cL_law 372 = .ok (.iaload, 1) := by decide +kernel
theorem dL_law_373 : decode cL_law 373 = .ok (.invokevirtual 76, 3) := by decide +kernel
theorem dL_law_376 : decode cL_law 376 = .ok (.istore 6, 2) := by decide +kernel
theorem dL_law_378 : decode cL_law 378 = .ok (.aload_n 2, 1) := by decide +kernel
theorem dL_law_379 : decode cL_law 379 = .ok (.invokevirtual 58, 3) := by decide +kernel
theorem dL_law_382 : decode cL_law 382 = .ok (.iload 5, 2) := by decide +kernel
theorem dL_law_384 : decode cL_law 384 = .ok (.if_icmp .eq 5, 3) := by decide +kernel
theorem dL_law_387 : decode cL_law 387 = .ok (.iconst 0, 1) := by decide +kernel
theorem dL_law_388 : decode cL_law 388 = .ok (.ireturn, 1) := by decide +kernel
theorem dL_law_389 : decode cL_law 389 = .ok (.iload 5, 2) := by decide +kernel
theorem dL_law_391 : decode cL_law 391 = .ok (.ifCond .ne 15, 3) := by decide +kernel
theorem dL_law_394 : decode cL_law 394 = .ok (.aload_n 3, 1) := by decide +kernel
theorem dL_law_395 : decode cL_law 395 = .ok (.iconst 0, 1) := by decide +kernel
theorem dL_law_396 : decode cL_law 396 = .ok (.laload, 1) := by decide +kernel
theorem dL_law_397 : decode cL_law 397 = .ok (.iload 6, 2) := by decide +kernel
theorem dL_law_399 : decode cL_law 399 = .ok (.i2l, 1) := by decide +kernel
theorem dL_law_400 : decode cL_law 400 = .ok (.lcmp, 1) := by decide +kernel
theorem dL_law_401 : decode cL_law 401 = .ok (.ifCond .eq 5, 3) := by decide +kernel
theorem dL_law_404 : decode cL_law 404 = .ok (.iconst 0, 1) := by decide +kernel
theorem dL_law_405 : decode cL_law 405 = .ok (.ireturn, 1) := by decide +kernel
theorem dL_law_406 : decode cL_law 406 = .ok (.goto 435, 3) := by decide +kernel
theorem dL_law_409 : decode cL_law 409 = .ok (.aload_n 1, 1) := by decide +kernel
theorem dL_law_410 : decode cL_law 410 = .ok (.aload_n 0, 1) := by decide +kernel
theorem dL_law_411 : decode cL_law 411 = .ok (.iload 4, 2) := by decide +kernel
theorem dL_law_413 : decode cL_law 413 = .ok (.iconst 1, 1) := by decide +kernel
theorem dL_law_414 : decode cL_law 414 = .ok (.iadd, 1) := by decide +kernel
theorem dL_law_415 : decode cL_law 415 = .ok (.iaload, 1) := by decide +kernel
theorem dL_law_416 : decode cL_law 416 = .ok (.aload_n 0, 1) := by decide +kernel
theorem dL_law_417 : decode cL_law 417 = .ok (.iload 4, 2) := by decide +kernel
theorem dL_law_419 : decode cL_law 419 = .ok (.iconst 2, 1) := by decide +kernel
theorem dL_law_420 : decode cL_law 420 = .ok (.iadd, 1) := by decide +kernel
theorem dL_law_421 : decode cL_law 421 = .ok (.iaload, 1) := by decide +kernel
theorem dL_law_422 : decode cL_law 422 = .ok (.aload_n 3, 1) := by decide +kernel
theorem dL_law_423 : decode cL_law 423 = .ok (.invokestatic 77, 3) := by decide +kernel
theorem dL_law_426 : decode cL_law 426 = .ok (.istore 5, 2) := by decide +kernel
theorem dL_law_428 : decode cL_law 428 = .ok (.aload_n 2, 1) := by decide +kernel
theorem dL_law_429 : decode cL_law 429 = .ok (.aload_n 0, 1) := by decide +kernel
theorem dL_law_430 : decode cL_law 430 = .ok (.iload 4, 2) := by decide +kernel
theorem dL_law_432 : decode cL_law 432 = .ok (.iconst 1, 1) := by decide +kernel
theorem dL_law_433 : decode cL_law 433 = .ok (.iadd, 1) := by decide +kernel
theorem dL_law_434 : decode cL_law 434 = .ok (.iaload, 1) := by decide +kernel
theorem dL_law_435 : decode cL_law 435 = .ok (.aload_n 0, 1) := by decide +kernel
theorem dL_law_436 : decode cL_law 436 = .ok (.iload 4, 2) := by decide +kernel
theorem dL_law_438 : decode cL_law 438 = .ok (.iconst 2, 1) := by decide +kernel
theorem dL_law_439 : decode cL_law 439 = .ok (.iadd, 1) := by decide +kernel
theorem dL_law_440 : decode cL_law 440 = .ok (.iaload, 1) := by decide +kernel
theorem dL_law_441 : decode cL_law 441 = .ok (.invokevirtual 79, 3) := by decide +kernel
theorem dL_law_444 : decode cL_law 444 = .ok (.istore 6, 2) := by decide +kernel
theorem dL_law_446 : decode cL_law 446 = .ok (.aload_n 2, 1) := by decide +kernel
theorem dL_law_447 : decode cL_law 447 = .ok (.invokevirtual 58, 3) := by decide +kernel
theorem dL_law_450 : decode cL_law 450 = .ok (.iload 5, 2) := by decide +kernel
theorem dL_law_452 : decode cL_law 452 = .ok (.if_icmp .eq 5, 3) := by decide +kernel
theorem dL_law_455 : decode cL_law 455 = .ok (.iconst 0, 1) := by decide +kernel
theorem dL_law_456 : decode cL_law 456 = .ok (.ireturn, 1) := by decide +kernel
theorem dL_law_457 : decode cL_law 457 = .ok (.iload 5, 2) := by decide +kernel
theorem dL_law_459 : decode cL_law 459 = .ok (.ifCond .ne 15, 3) := by decide +kernel
theorem dL_law_462 : decode cL_law 462 = .ok (.aload_n 3, 1) := by decide +kernel
theorem dL_law_463 : decode cL_law 463 = .ok (.iconst 0, 1) := by decide +kernel
theorem dL_law_464 : decode cL_law 464 = .ok (.laload, 1) := by decide +kernel
theorem dL_law_465 : decode cL_law 465 = .ok (.iload 6, 2) := by decide +kernel
theorem dL_law_467 : decode cL_law 467 = .ok (.i2l, 1) := by decide +kernel
theorem dL_law_468 : decode cL_law 468 = .ok (.lcmp, 1) := by decide +kernel
theorem dL_law_469 : decode cL_law 469 = .ok (.ifCond .eq 5, 3) := by decide +kernel
theorem dL_law_472 : decode cL_law 472 = .ok (.iconst 0, 1) := by decide +kernel
theorem dL_law_473 : decode cL_law 473 = .ok (.ireturn, 1) := by decide +kernel
theorem dL_law_474 : decode cL_law 474 = .ok (.goto 367, 3) := by decide +kernel
theorem dL_law_477 : decode cL_law 477 = .ok (.aload_n 1, 1) := by decide +kernel
theorem dL_law_478 : decode cL_law 478 = .ok (.aload_n 0, 1) := by decide +kernel
theorem dL_law_479 : decode cL_law 479 = .ok (.iload 4, 2) := by decide +kernel
theorem dL_law_481 : decode cL_law 481 = .ok (.iconst 1, 1) := by decide +kernel
theorem dL_law_482 : decode cL_law 482 = .ok (.iadd, 1) := by decide +kernel
theorem dL_law_483 : decode cL_law 483 = .ok (.iaload, 1) := by decide +kernel
theorem dL_law_484 : decode cL_law 484 = .ok (.aload_n 0, 1) := by decide +kernel
theorem dL_law_485 : decode cL_law 485 = .ok (.iload 4, 2) := by decide +kernel
theorem dL_law_487 : decode cL_law 487 = .ok (.iconst 2, 1) := by decide +kernel
theorem dL_law_488 : decode cL_law 488 = .ok (.iadd, 1) := by decide +kernel
theorem dL_law_489 : decode cL_law 489 = .ok (.iaload, 1) := by decide +kernel
theorem dL_law_490 : decode cL_law 490 = .ok (.aload_n 3, 1) := by decide +kernel
theorem dL_law_491 : decode cL_law 491 = .ok (.invokestatic 80, 3) := by decide +kernel
theorem dL_law_494 : decode cL_law 494 = .ok (.istore 5, 2) := by decide +kernel
theorem dL_law_496 : decode cL_law 496 = .ok (.aload_n 2, 1) := by decide +kernel
theorem dL_law_497 : decode cL_law 497 = .ok (.aload_n 0, 1) := by decide +kernel
theorem dL_law_498 : decode cL_law 498 = .ok (.iload 4, 2) := by decide +kernel
theorem dL_law_500 : decode cL_law 500 = .ok (.iconst 1, 1) := by decide +kernel
theorem dL_law_501 : decode cL_law 501 = .ok (.iadd, 1) := by decide +kernel
theorem dL_law_502 : decode cL_law 502 = .ok (.iaload, 1) := by decide +kernel
theorem dL_law_503 : decode cL_law 503 = .ok (.aload_n 0, 1) := by decide +kernel
theorem dL_law_504 : decode cL_law 504 = .ok (.iload 4, 2) := by decide +kernel
theorem dL_law_506 : decode cL_law 506 = .ok (.iconst 2, 1) := by decide +kernel
theorem dL_law_507 : decode cL_law 507 = .ok (.iadd, 1) := by decide +kernel
theorem dL_law_508 : decode cL_law 508 = .ok (.iaload, 1) := by decide +kernel
theorem dL_law_509 : decode cL_law 509 = .ok (.invokevirtual 82, 3) := by decide +kernel
theorem dL_law_512 : decode cL_law 512 = .ok (.istore 6, 2) := by decide +kernel
theorem dL_law_514 : decode cL_law 514 = .ok (.aload_n 2, 1) := by decide +kernel
theorem dL_law_515 : decode cL_law 515 = .ok (.invokevirtual 58, 3) := by decide +kernel
theorem dL_law_518 : decode cL_law 518 = .ok (.iload 5, 2) := by decide +kernel
theorem dL_law_520 : decode cL_law 520 = .ok (.if_icmp .eq 5, 3) := by decide +kernel
theorem dL_law_523 : decode cL_law 523 = .ok (.iconst 0, 1) := by decide +kernel
theorem dL_law_524 : decode cL_law 524 = .ok (.ireturn, 1) := by decide +kernel
theorem dL_law_525 : decode cL_law 525 = .ok (.iload 5, 2) := by decide +kernel
theorem dL_law_527 : decode cL_law 527 = .ok (.ifCond .ne 15, 3) := by decide +kernel
theorem dL_law_530 : decode cL_law 530 = .ok (.aload_n 3, 1) := by decide +kernel
theorem dL_law_531 : decode cL_law 531 = .ok (.iconst 0, 1) := by decide +kernel
theorem dL_law_532 : decode cL_law 532 = .ok (.laload, 1) := by decide +kernel
theorem dL_law_533 : decode cL_law 533 = .ok (.iload 6, 2) := by decide +kernel
theorem dL_law_535 : decode cL_law 535 = .ok (.i2l, 1) := by decide +kernel
theorem dL_law_536 : decode cL_law 536 = .ok (.lcmp, 1) := by decide +kernel
theorem dL_law_537 : decode cL_law 537 = .ok (.ifCond .eq 5, 3) := by decide +kernel
theorem dL_law_540 : decode cL_law 540 = .ok (.iconst 0, 1) := by decide +kernel
theorem dL_law_541 : decode cL_law 541 = .ok (.ireturn, 1) := by decide +kernel
theorem dL_law_542 : decode cL_law 542 = .ok (.goto 299, 3) := by decide +kernel
theorem dL_law_545 : decode cL_law 545 = .ok (.aload_n 1, 1) := by decide +kernel
theorem dL_law_546 : decode cL_law 546 = .ok (.aload_n 0, 1) := by decide +kernel
theorem dL_law_547 : decode cL_law 547 = .ok (.iload 4, 2) := by decide +kernel
theorem dL_law_549 : decode cL_law 549 = .ok (.iconst 1, 1) := by decide +kernel
theorem dL_law_550 : decode cL_law 550 = .ok (.iadd, 1) := by decide +kernel
theorem dL_law_551 : decode cL_law 551 = .ok (.iaload, 1) := by decide +kernel
theorem dL_law_552 : decode cL_law 552 = .ok (.aload_n 0, 1) := by decide +kernel
theorem dL_law_553 : decode cL_law 553 = .ok (.iload 4, 2) := by decide +kernel
theorem dL_law_555 : decode cL_law 555 = .ok (.iconst 2, 1) := by decide +kernel
theorem dL_law_556 : decode cL_law 556 = .ok (.iadd, 1) := by decide +kernel
theorem dL_law_557 : decode cL_law 557 = .ok (.iaload, 1) := by decide +kernel
theorem dL_law_558 : decode cL_law 558 = .ok (.aload_n 3, 1) := by decide +kernel
theorem dL_law_559 : decode cL_law 559 = .ok (.invokestatic 83, 3) := by decide +kernel
theorem dL_law_562 : decode cL_law 562 = .ok (.istore 5, 2) := by decide +kernel
theorem dL_law_564 : decode cL_law 564 = .ok (.aload_n 2, 1) := by decide +kernel
theorem dL_law_565 : decode cL_law 565 = .ok (.aload_n 0, 1) := by decide +kernel
theorem dL_law_566 : decode cL_law 566 = .ok (.iload 4, 2) := by decide +kernel
theorem dL_law_568 : decode cL_law 568 = .ok (.iconst 1, 1) := by decide +kernel
theorem dL_law_569 : decode cL_law 569 = .ok (.iadd, 1) := by decide +kernel
theorem dL_law_570 : decode cL_law 570 = .ok (.iaload, 1) := by decide +kernel
theorem dL_law_571 : decode cL_law 571 = .ok (.aload_n 0, 1) := by decide +kernel
theorem dL_law_572 : decode cL_law 572 = .ok (.iload 4, 2) := by decide +kernel
theorem dL_law_574 : decode cL_law 574 = .ok (.iconst 2, 1) := by decide +kernel
theorem dL_law_575 : decode cL_law 575 = .ok (.iadd, 1) := by decide +kernel
theorem dL_law_576 : decode cL_law 576 = .ok (.iaload, 1) := by decide +kernel
theorem dL_law_577 : decode cL_law 577 = .ok (.invokevirtual 85, 3) := by decide +kernel
theorem dL_law_580 : decode cL_law 580 = .ok (.istore 6, 2) := by decide +kernel
theorem dL_law_582 : decode cL_law 582 = .ok (.aload_n 2, 1) := by decide +kernel
theorem dL_law_583 : decode cL_law 583 = .ok (.invokevirtual 58, 3) := by decide +kernel
theorem dL_law_586 : decode cL_law 586 = .ok (.iload 5, 2) := by decide +kernel
theorem dL_law_588 : decode cL_law 588 = .ok (.if_icmp .eq 5, 3) := by decide +kernel
theorem dL_law_591 : decode cL_law 591 = .ok (.iconst 0, 1) := by decide +kernel
theorem dL_law_592 : decode cL_law 592 = .ok (.ireturn, 1) := by decide +kernel
theorem dL_law_593 : decode cL_law 593 = .ok (.iload 5, 2) := by decide +kernel
theorem dL_law_595 : decode cL_law 595 = .ok (.ifCond .ne 22, 3) := by decide +kernel
theorem dL_law_598 : decode cL_law 598 = .ok (.aload_n 3, 1) := by decide +kernel
theorem dL_law_599 : decode cL_law 599 = .ok (.iconst 0, 1) := by decide +kernel
theorem dL_law_600 : decode cL_law 600 = .ok (.laload, 1) := by decide +kernel
theorem dL_law_601 : decode cL_law 601 = .ok (.iload 6, 2) := by decide +kernel
theorem dL_law_603 : decode cL_law 603 = .ok (.ifCond .eq 7, 3) := by decide +kernel
theorem dL_law_606 : decode cL_law 606 = .ok (.lconst 1, 1) := by decide +kernel
theorem dL_law_607 : decode cL_law 607 = .ok (.goto 4, 3) := by decide +kernel
theorem dL_law_610 : decode cL_law 610 = .ok (.lconst 0, 1) := by decide +kernel
theorem dL_law_611 : decode cL_law 611 = .ok (.lcmp, 1) := by decide +kernel
theorem dL_law_612 : decode cL_law 612 = .ok (.ifCond .eq 5, 3) := by decide +kernel
theorem dL_law_615 : decode cL_law 615 = .ok (.iconst 0, 1) := by decide +kernel
theorem dL_law_616 : decode cL_law 616 = .ok (.ireturn, 1) := by decide +kernel
theorem dL_law_617 : decode cL_law 617 = .ok (.goto 224, 3) := by decide +kernel
theorem dL_law_620 : decode cL_law 620 = .ok (.aload_n 1, 1) := by decide +kernel
theorem dL_law_621 : decode cL_law 621 = .ok (.invokevirtual 86, 3) := by decide +kernel
theorem dL_law_624 : decode cL_law 624 = .ok (.aload_n 2, 1) := by decide +kernel
theorem dL_law_625 : decode cL_law 625 = .ok (.invokevirtual 89, 3) := by decide +kernel
theorem dL_law_628 : decode cL_law 628 = .ok (.if_icmp .eq 213, 3) := by decide +kernel
theorem dL_law_631 : decode cL_law 631 = .ok (.iconst 0, 1) := by decide +kernel
theorem dL_law_632 : decode cL_law 632 = .ok (.ireturn, 1) := by decide +kernel
theorem dL_law_633 : decode cL_law 633 = .ok (.aload_n 1, 1) := by decide +kernel
theorem dL_law_634 : decode cL_law 634 = .ok (.aload_n 0, 1) := by decide +kernel
theorem dL_law_635 : decode cL_law 635 = .ok (.iload 4, 2) := by decide +kernel
theorem dL_law_637 : decode cL_law 637 = .ok (.iconst 1, 1) := by decide +kernel
theorem dL_law_638 : decode cL_law 638 = .ok (.iadd, 1) := by decide +kernel
theorem dL_law_639 : decode cL_law 639 = .ok (.iaload, 1) := by decide +kernel
theorem dL_law_640 : decode cL_law 640 = .ok (.ifCond .eq 7, 3) := by decide +kernel
theorem dL_law_643 : decode cL_law 643 = .ok (.iconst 1, 1) := by decide +kernel
theorem dL_law_644 : decode cL_law 644 = .ok (.goto 4, 3) := by decide +kernel
theorem dL_law_647 : decode cL_law 647 = .ok (.iconst 0, 1) := by decide +kernel
theorem dL_law_648 : decode cL_law 648 = .ok (.invokevirtual 90, 3) := by decide +kernel
theorem dL_law_651 : decode cL_law 651 = .ok (.aload_n 2, 1) := by decide +kernel
theorem dL_law_652 : decode cL_law 652 = .ok (.aload_n 0, 1) := by decide +kernel
theorem dL_law_653 : decode cL_law 653 = .ok (.iload 4, 2) := by decide +kernel
theorem dL_law_655 : decode cL_law 655 = .ok (.iconst 1, 1) := by decide +kernel
theorem dL_law_656 : decode cL_law 656 = .ok (.iadd, 1) := by decide +kernel
theorem dL_law_657 : decode cL_law 657 = .ok (.iaload, 1) := by decide +kernel
theorem dL_law_658 : decode cL_law 658 = .ok (.ifCond .eq 7, 3) := by decide +kernel
theorem dL_law_661 : decode cL_law 661 = .ok (.iconst 1, 1) := by decide +kernel
theorem dL_law_662 : decode cL_law 662 = .ok (.goto 4, 3) := by decide +kernel
theorem dL_law_665 : decode cL_law 665 = .ok (.iconst 0, 1) := by decide +kernel
theorem dL_law_666 : decode cL_law 666 = .ok (.invokevirtual 93, 3) := by decide +kernel
theorem dL_law_669 : decode cL_law 669 = .ok (.if_icmp .eq 172, 3) := by decide +kernel
theorem dL_law_672 : decode cL_law 672 = .ok (.iconst 0, 1) := by decide +kernel
theorem dL_law_673 : decode cL_law 673 = .ok (.ireturn, 1) := by decide +kernel
theorem dL_law_674 : decode cL_law 674 = .ok (.aload_n 1, 1) := by decide +kernel
theorem dL_law_675 : decode cL_law 675 = .ok (.aload_n 0, 1) := by decide +kernel
theorem dL_law_676 : decode cL_law 676 = .ok (.iload 4, 2) := by decide +kernel
theorem dL_law_678 : decode cL_law 678 = .ok (.iconst 1, 1) := by decide +kernel
theorem dL_law_679 : decode cL_law 679 = .ok (.iadd, 1) := by decide +kernel
theorem dL_law_680 : decode cL_law 680 = .ok (.iaload, 1) := by decide +kernel
theorem dL_law_681 : decode cL_law 681 = .ok (.aload_n 0, 1) := by decide +kernel
theorem dL_law_682 : decode cL_law 682 = .ok (.iload 4, 2) := by decide +kernel
theorem dL_law_684 : decode cL_law 684 = .ok (.iconst 2, 1) := by decide +kernel
theorem dL_law_685 : decode cL_law 685 = .ok (.iadd, 1) := by decide +kernel
theorem dL_law_686 : decode cL_law 686 = .ok (.iaload, 1) := by decide +kernel
theorem dL_law_687 : decode cL_law 687 = .ok (.aload_n 3, 1) := by decide +kernel
theorem dL_law_688 : decode cL_law 688 = .ok (.invokestatic 94, 3) := by decide +kernel
theorem dL_law_691 : decode cL_law 691 = .ok (.istore 5, 2) := by decide +kernel
theorem dL_law_693 : decode cL_law 693 = .ok (.aload_n 2, 1) := by decide +kernel
theorem dL_law_694 : decode cL_law 694 = .ok (.aload_n 0, 1) := by decide +kernel
theorem dL_law_695 : decode cL_law 695 = .ok (.iload 4, 2) := by decide +kernel
theorem dL_law_697 : decode cL_law 697 = .ok (.iconst 1, 1) := by decide +kernel
theorem dL_law_698 : decode cL_law 698 = .ok (.iadd, 1) := by decide +kernel
theorem dL_law_699 : decode cL_law 699 = .ok (.iaload, 1) := by decide +kernel
theorem dL_law_700 : decode cL_law 700 = .ok (.aload_n 0, 1) := by decide +kernel
theorem dL_law_701 : decode cL_law 701 = .ok (.iload 4, 2) := by decide +kernel
theorem dL_law_703 : decode cL_law 703 = .ok (.iconst 2, 1) := by decide +kernel
theorem dL_law_704 : decode cL_law 704 = .ok (.iadd, 1) := by decide +kernel
theorem dL_law_705 : decode cL_law 705 = .ok (.iaload, 1) := by decide +kernel
theorem dL_law_706 : decode cL_law 706 = .ok (.invokevirtual 96, 3) := by decide +kernel
theorem dL_law_709 : decode cL_law 709 = .ok (.istore 6, 2) := by decide +kernel
theorem dL_law_711 : decode cL_law 711 = .ok (.aload_n 2, 1) := by decide +kernel
theorem dL_law_712 : decode cL_law 712 = .ok (.invokevirtual 58, 3) := by decide +kernel
theorem dL_law_715 : decode cL_law 715 = .ok (.iload 5, 2) := by decide +kernel
theorem dL_law_717 : decode cL_law 717 = .ok (.if_icmp .eq 5, 3) := by decide +kernel
theorem dL_law_720 : decode cL_law 720 = .ok (.iconst 0, 1) := by decide +kernel
theorem dL_law_721 : decode cL_law 721 = .ok (.ireturn, 1) := by decide +kernel
theorem dL_law_722 : decode cL_law 722 = .ok (.iload 5, 2) := by decide +kernel
theorem dL_law_724 : decode cL_law 724 = .ok (.ifCond .ne 15, 3) := by decide +kernel
theorem dL_law_727 : decode cL_law 727 = .ok (.aload_n 3, 1) := by decide +kernel
theorem dL_law_728 : decode cL_law 728 = .ok (.iconst 0, 1) := by decide +kernel
theorem dL_law_729 : decode cL_law 729 = .ok (.laload, 1) := by decide +kernel
theorem dL_law_730 : decode cL_law 730 = .ok (.iload 6, 2) := by decide +kernel
theorem dL_law_732 : decode cL_law 732 = .ok (.i2l, 1) := by decide +kernel
theorem dL_law_733 : decode cL_law 733 = .ok (.lcmp, 1) := by decide +kernel
theorem dL_law_734 : decode cL_law 734 = .ok (.ifCond .eq 5, 3) := by decide +kernel
theorem dL_law_737 : decode cL_law 737 = .ok (.iconst 0, 1) := by decide +kernel
theorem dL_law_738 : decode cL_law 738 = .ok (.ireturn, 1) := by decide +kernel
theorem dL_law_739 : decode cL_law 739 = .ok (.goto 102, 3) := by decide +kernel
theorem dL_law_742 : decode cL_law 742 = .ok (.aload_n 1, 1) := by decide +kernel
theorem dL_law_743 : decode cL_law 743 = .ok (.aload_n 0, 1) := by decide +kernel
theorem dL_law_744 : decode cL_law 744 = .ok (.iload 4, 2) := by decide +kernel
theorem dL_law_746 : decode cL_law 746 = .ok (.iconst 1, 1) := by decide +kernel
theorem dL_law_747 : decode cL_law 747 = .ok (.iadd, 1) := by decide +kernel
theorem dL_law_748 : decode cL_law 748 = .ok (.iaload, 1) := by decide +kernel
theorem dL_law_749 : decode cL_law 749 = .ok (.aload_n 3, 1) := by decide +kernel
theorem dL_law_750 : decode cL_law 750 = .ok (.invokestatic 97, 3) := by decide +kernel
theorem dL_law_753 : decode cL_law 753 = .ok (.istore 5, 2) := by decide +kernel
theorem dL_law_755 : decode cL_law 755 = .ok (.aload_n 2, 1) := by decide +kernel
theorem dL_law_756 : decode cL_law 756 = .ok (.aload_n 0, 1) := by decide +kernel
theorem dL_law_757 : decode cL_law 757 = .ok (.iload 4, 2) := by decide +kernel
theorem dL_law_759 : decode cL_law 759 = .ok (.iconst 1, 1) := by decide +kernel
theorem dL_law_760 : decode cL_law 760 = .ok (.iadd, 1) := by decide +kernel
theorem dL_law_761 : decode cL_law 761 = .ok (.iaload, 1) := by decide +kernel
theorem dL_law_762 : decode cL_law 762 = .ok (.invokevirtual 100, 3) := by decide +kernel
theorem dL_law_765 : decode cL_law 765 = .ok (.istore 6, 2) := by decide +kernel
theorem dL_law_767 : decode cL_law 767 = .ok (.aload_n 2, 1) := by decide +kernel
theorem dL_law_768 : decode cL_law 768 = .ok (.invokevirtual 58, 3) := by decide +kernel
theorem dL_law_771 : decode cL_law 771 = .ok (.iload 5, 2) := by decide +kernel
theorem dL_law_773 : decode cL_law 773 = .ok (.if_icmp .eq 5, 3) := by decide +kernel
theorem dL_law_776 : decode cL_law 776 = .ok (.iconst 0, 1) := by decide +kernel
theorem dL_law_777 : decode cL_law 777 = .ok (.ireturn, 1) := by decide +kernel
theorem dL_law_778 : decode cL_law 778 = .ok (.iload 5, 2) := by decide +kernel
theorem dL_law_780 : decode cL_law 780 = .ok (.ifCond .ne 15, 3) := by decide +kernel
theorem dL_law_783 : decode cL_law 783 = .ok (.aload_n 3, 1) := by decide +kernel
theorem dL_law_784 : decode cL_law 784 = .ok (.iconst 0, 1) := by decide +kernel
theorem dL_law_785 : decode cL_law 785 = .ok (.laload, 1) := by decide +kernel
theorem dL_law_786 : decode cL_law 786 = .ok (.iload 6, 2) := by decide +kernel
theorem dL_law_788 : decode cL_law 788 = .ok (.i2l, 1) := by decide +kernel
theorem dL_law_789 : decode cL_law 789 = .ok (.lcmp, 1) := by decide +kernel
theorem dL_law_790 : decode cL_law 790 = .ok (.ifCond .eq 5, 3) := by decide +kernel
theorem dL_law_793 : decode cL_law 793 = .ok (.iconst 0, 1) := by decide +kernel
theorem dL_law_794 : decode cL_law 794 = .ok (.ireturn, 1) := by decide +kernel
theorem dL_law_795 : decode cL_law 795 = .ok (.goto 46, 3) := by decide +kernel
theorem dL_law_798 : decode cL_law 798 = .ok (.aload_n 1, 1) := by decide +kernel
theorem dL_law_799 : decode cL_law 799 = .ok (.invokevirtual 101, 3) := by decide +kernel
theorem dL_law_802 : decode cL_law 802 = .ok (.f2d, 1) := by decide +kernel
theorem dL_law_803 : decode cL_law 803 = .ok (.dstore 5, 2) := by decide +kernel
theorem dL_law_805 : decode cL_law 805 = .ok (.aload_n 2, 1) := by decide +kernel
theorem dL_law_806 : decode cL_law 806 = .ok (.invokevirtual 105, 3) := by decide +kernel
theorem dL_law_809 : decode cL_law 809 = .ok (.f2d, 1) := by decide +kernel
theorem dL_law_810 : decode cL_law 810 = .ok (.dstore 7, 2) := by decide +kernel
theorem dL_law_812 : decode cL_law 812 = .ok (.dload 5, 2) := by decide +kernel
theorem dL_law_814 : decode cL_law 814 = .ok (.dload 7, 2) := by decide +kernel
theorem dL_law_816 : decode cL_law 816 = .ok (.dcmp .l, 1) := by decide +kernel
theorem dL_law_817 : decode cL_law 817 = .ok (.ifCond .eq 21, 3) := by decide +kernel
theorem dL_law_820 : decode cL_law 820 = .ok (.dload 5, 2) := by decide +kernel
theorem dL_law_822 : decode cL_law 822 = .ok (.dload 5, 2) := by decide +kernel
theorem dL_law_824 : decode cL_law 824 = .ok (.dcmp .l, 1) := by decide +kernel
theorem dL_law_825 : decode cL_law 825 = .ok (.ifCond .eq 11, 3) := by decide +kernel
theorem dL_law_828 : decode cL_law 828 = .ok (.dload 7, 2) := by decide +kernel
theorem dL_law_830 : decode cL_law 830 = .ok (.dload 7, 2) := by decide +kernel
theorem dL_law_832 : decode cL_law 832 = .ok (.dcmp .l, 1) := by decide +kernel
theorem dL_law_833 : decode cL_law 833 = .ok (.ifCond .ne 5, 3) := by decide +kernel
theorem dL_law_836 : decode cL_law 836 = .ok (.iconst 0, 1) := by decide +kernel
theorem dL_law_837 : decode cL_law 837 = .ok (.ireturn, 1) := by decide +kernel
theorem dL_law_838 : decode cL_law 838 = .ok (.goto 3, 3) := by decide +kernel
theorem dL_law_841 : decode cL_law 841 = .ok (.iinc 4 4, 3) := by decide +kernel
theorem dL_law_844 : decode cL_law 844 = .ok (.goto (-821), 3) := by decide +kernel
theorem dL_law_847 : decode cL_law 847 = .ok (.iconst 1, 1) := by decide +kernel
theorem dL_law_848 : decode cL_law 848 = .ok (.ireturn, 1) := by decide +kernel
end
section
def TB : List Cond := lw_tbl.filter goodWord
theorem tb_of {w : Cond} (h : w ∈ lw_tbl) (g : goodWord w = true) : w ∈ TB := List.mem_filter.mpr ⟨h, g⟩
theorem tb_in {w : Cond} (h : w ∈ TB) : w ∈ lw_tbl := (List.mem_filter.mp h).1
theorem tb_good {w : Cond} (h : w ∈ TB) : (w.onTables && w.keeps) = true ∨ ∃ ty, w = .arrayClass ty := good_of_word (List.mem_filter.mp h).2
theorem tb_cons {w : Cond} (h : w ∈ TB) : GoodIn TB (w :: TB) := fun v hv => (List.mem_cons.mp hv).elim (fun e => by rw [e]; exact ⟨h, tb_good h⟩) (fun h1 => ⟨h1, tb_good h1⟩)
theorem tb1 {w : Cond} (i : Nat) (h : tables_1_1[i]? = some w) (g : goodWord w = true) : w ∈ TB := tb_of (List.mem_append_right _ (List.mem_append_left _ (List.mem_of_getElem? h))) g
theorem tb2 {w : Cond} (i : Nat) (h : tables_1_2[i]? = some w) (g : goodWord w = true) : w ∈ TB := tb_of (List.mem_append_right _ (List.mem_append_right _ (List.mem_append_left _ (List.mem_of_getElem? h)))) g
theorem tb3 {w : Cond} (i : Nat) (h : tables_1_3[i]? = some w) (g : goodWord w = true) : w ∈ TB := tb_of (List.mem_append_right _ (List.mem_append_right _ (List.mem_append_right _ (List.mem_append_left _ (List.mem_of_getElem? h))))) g
theorem tb4 {w : Cond} (i : Nat) (h : tables_1_4[i]? = some w) (g : goodWord w = true) : w ∈ TB := tb_of (List.mem_append_right _ (List.mem_append_right _ (List.mem_append_right _ (List.mem_append_right _ (List.mem_of_getElem? h))))) g
theorem tb_sel {q : MethodName × Nat} (h : q ∈ lw_privs) : (Cond.selects q.1.cls q.1 q.1) ∈ TB := tb_of (List.mem_append_left _ (List.mem_map.mpr ⟨q, h, rfl⟩)) rfl
theorem tbs1 {q : MethodName × Nat} (i : Nat) (h : lw_privs_1[i]? = some q) : (Cond.selects q.1.cls q.1 q.1) ∈ TB := tb_sel (List.mem_append_left _ (List.mem_of_getElem? h))
theorem tbs2 {q : MethodName × Nat} (i : Nat) (h : lw_privs_2[i]? = some q) : (Cond.selects q.1.cls q.1 q.1) ∈ TB := tb_sel (List.mem_append_right _ (List.mem_append_left _ (List.mem_of_getElem? h)))
theorem tbs3 {q : MethodName × Nat} (i : Nat) (h : lw_privs_3[i]? = some q) : (Cond.selects q.1.cls q.1 q.1) ∈ TB := tb_sel (List.mem_append_right _ (List.mem_append_right _ (List.mem_append_left _ (List.mem_of_getElem? h))))
theorem tbs4 {q : MethodName × Nat} (i : Nat) (h : lw_privs_4[i]? = some q) : (Cond.selects q.1.cls q.1 q.1) ∈ TB := tb_sel (List.mem_append_right _ (List.mem_append_right _ (List.mem_append_right _ (List.mem_append_left _ (List.mem_of_getElem? h)))))
theorem tbs5 {q : MethodName × Nat} (i : Nat) (h : lw_privs_5[i]? = some q) : (Cond.selects q.1.cls q.1 q.1) ∈ TB := tb_sel (List.mem_append_right _ (List.mem_append_right _ (List.mem_append_right _ (List.mem_append_right _ (List.mem_of_getElem? h)))))
theorem m1_0 : (Cond.initialized RL) ∈ TB := tb1 0 rfl rfl
theorem m1_1 : (Cond.initialized RX3) ∈ TB := tb1 1 rfl rfl
theorem m1_2 : (Cond.initialized RX0) ∈ TB := tb1 2 rfl rfl
theorem m1_3 : (Cond.initialized RX2) ∈ TB := tb1 3 rfl rfl
theorem m1_4 : (Cond.initialized RX1) ∈ TB := tb1 4 rfl rfl
theorem m1_5 : (Cond.initialized RX4) ∈ TB := tb1 5 rfl rfl
theorem m1_6 : (Cond.initialized "java/lang/Throwable") ∈ TB := tb1 6 rfl rfl
theorem m1_7 : (Cond.initialized "java/lang/Exception") ∈ TB := tb1 7 rfl rfl
theorem m1_8 : (Cond.initialized "java/lang/RuntimeException") ∈ TB := tb1 8 rfl rfl
theorem m1_9 : (Cond.initialized "java/lang/IndexOutOfBoundsException") ∈ TB := tb1 9 rfl rfl
theorem m1_10 : (Cond.initialized "java/lang/IllegalArgumentException") ∈ TB := tb1 10 rfl rfl
theorem m1_11 : (Cond.initialized RJ7) ∈ TB := tb1 11 rfl rfl
theorem m1_12 : (Cond.initialized RJ10) ∈ TB := tb1 12 rfl rfl
theorem m1_13 : (Cond.initialized "java/lang/IllegalStateException") ∈ TB := tb1 13 rfl rfl
theorem m1_14 : (Cond.initialized RJ9) ∈ TB := tb1 14 rfl rfl
theorem m1_15 : (Cond.initialized RJ13) ∈ TB := tb1 15 rfl rfl
theorem m1_16 : (Cond.classLink RL 8 RX3) ∈ TB := tb1 16 rfl rfl
theorem m1_17 : (Cond.instantiable RX3 7) ∈ TB := tb1 17 rfl rfl
theorem m1_18 : (Cond.methodLink RL 48 yX3_init) ∈ TB := tb1 18 rfl rfl
theorem m1_19 : (Cond.instanceMethod yX3_init) ∈ TB := tb1 19 rfl rfl
theorem m1_20 : (Cond.code yX3_init cX3_init 1 none) ∈ TB := tb1 20 rfl rfl
theorem m1_21 : (Cond.methodLink RX3 3 objectInit) ∈ TB := tb1 21 rfl rfl
theorem m1_22 : (Cond.instanceMethod objectInit) ∈ TB := tb1 22 rfl rfl
theorem m1_23 : (Cond.code objectInit object_method_1_code 1 none) ∈ TB := tb1 23 rfl rfl
theorem m1_24 : (Cond.classLink RX3 9 RX0) ∈ TB := tb1 24 rfl rfl
theorem m1_25 : (Cond.instantiable RX0 2) ∈ TB := tb1 25 rfl rfl
theorem m1_27 : (Cond.instanceMethod yX0_init) ∈ TB := tb1 27 rfl rfl
theorem m1_28 : (Cond.code yX0_init cX0_init 1 none) ∈ TB := tb1 28 rfl rfl
theorem m1_29 : (Cond.methodLink RX0 3 objectInit) ∈ TB := tb1 29 rfl rfl
theorem m1_30 : (Cond.fieldLink RX0 9 "ChannelRouter$Pins" "top" "[I") ∈ TB := tb1 30 rfl rfl
theorem m1_33 : (Cond.fieldLink RX0 15 "ChannelRouter$Pins" "bottom" "[I") ∈ TB := tb1 33 rfl rfl
theorem m1_41 : (Cond.arrayClass .int) ∈ TB := tb1 41 rfl rfl
theorem m1_42 : (Cond.classLink RX3 16 RX2) ∈ TB := tb1 42 rfl rfl
theorem m1_43 : (Cond.instantiable RX2 4) ∈ TB := tb1 43 rfl rfl
theorem m1_45 : (Cond.instanceMethod yX2_init) ∈ TB := tb1 45 rfl rfl
theorem m1_46 : (Cond.code yX2_init cX2_init 1 none) ∈ TB := tb1 46 rfl rfl
theorem m1_47 : (Cond.methodLink RX2 3 objectInit) ∈ TB := tb1 47 rfl rfl
theorem m1_48 : (Cond.fieldLink RX2 9 "ChannelRouter$RingSearch" "reach" "[J") ∈ TB := tb1 48 rfl rfl
theorem m1_49 : (Cond.fieldLink RX2 15 "ChannelRouter$RingSearch" "steps" "[I") ∈ TB := tb1 49 rfl rfl
theorem m1_50 : (Cond.fieldLink RX2 19 "ChannelRouter$RingSearch" "told" "[I") ∈ TB := tb1 50 rfl rfl
theorem m1_51 : (Cond.fieldLink RX2 22 "ChannelRouter$RingSearch" "length" "I") ∈ TB := tb1 51 rfl rfl
theorem m1_61 : (Cond.arrayClass .long) ∈ TB := tb1 61 rfl rfl
theorem m1_62 : (Cond.classLink RX3 23 RX1) ∈ TB := tb1 62 rfl rfl
theorem m1_63 : (Cond.instantiable RX1 9) ∈ TB := tb1 63 rfl rfl
theorem m1_65 : (Cond.instanceMethod yX1_init) ∈ TB := tb1 65 rfl rfl
theorem m1_66 : (Cond.code yX1_init cX1_init 1 none) ∈ TB := tb1 66 rfl rfl
theorem m1_67 : (Cond.methodLink RX1 3 objectInit) ∈ TB := tb1 67 rfl rfl
theorem m1_68 : (Cond.fieldLink RX1 9 "ChannelRouter$Plan" "netOf" "[I") ∈ TB := tb1 68 rfl rfl
theorem m1_70 : (Cond.fieldLink RX1 15 "ChannelRouter$Plan" "left" "[I") ∈ TB := tb1 70 rfl rfl
theorem m1_72 : (Cond.fieldLink RX1 18 "ChannelRouter$Plan" "right" "[I") ∈ TB := tb1 72 rfl rfl
theorem m1_74 : (Cond.fieldLink RX1 21 "ChannelRouter$Plan" "trackOf" "[I") ∈ TB := tb1 74 rfl rfl
theorem m1_76 : (Cond.fieldLink RX1 24 "ChannelRouter$Plan" "touched" "[I") ∈ TB := tb1 76 rfl rfl
theorem m1_77 : (Cond.fieldLink RX1 27 "ChannelRouter$Plan" "below" "[J") ∈ TB := tb1 77 rfl rfl
theorem m1_79 : (Cond.fieldLink RX1 31 "ChannelRouter$Plan" "byLeft" "[I") ∈ TB := tb1 79 rfl rfl
theorem m1_80 : (Cond.fieldLink RX1 34 "ChannelRouter$Plan" "size" "I") ∈ TB := tb1 80 rfl rfl
theorem m1_83 : (Cond.fieldLink RX1 38 "ChannelRouter$Plan" "tracks" "I") ∈ TB := tb1 83 rfl rfl
theorem m1_104 : (Cond.fieldLink RX3 12 "ChannelRouter" "pins" "LChannelRouter$Pins;") ∈ TB := tb1 104 rfl rfl
theorem m1_105 : (Cond.fieldLink RX3 19 "ChannelRouter" "rings" "LChannelRouter$RingSearch;") ∈ TB := tb1 105 rfl rfl
theorem m1_106 : (Cond.fieldLink RX3 26 "ChannelRouter" "laid" "LChannelRouter$Plan;") ∈ TB := tb1 106 rfl rfl
theorem m1_107 : (Cond.fieldLink RX3 30 "ChannelRouter" "draft" "LChannelRouter$Plan;") ∈ TB := tb1 107 rfl rfl
theorem m1_108 : (Cond.fieldLink RX3 33 "ChannelRouter" "isLaid" "Z") ∈ TB := tb1 108 rfl rfl
theorem m1_109 : (Cond.fieldLink RX3 37 "ChannelRouter" "timesLaid" "I") ∈ TB := tb1 109 rfl rfl
theorem m1_110 : (Cond.fieldLink RX3 41 "ChannelRouter" "timesRefused" "I") ∈ TB := tb1 110 rfl rfl
theorem m1_126 : (Cond.methodLink RL 69 yX3_ring) ∈ TB := tb1 126 rfl rfl
theorem m1_127 : (Cond.instanceMethod yX3_ring) ∈ TB := tb1 127 rfl rfl
theorem m1_128 : (Cond.selects RX3 yX3_ring yX3_ring) ∈ TB := tb1 128 rfl rfl
theorem m1_129 : (Cond.code yX3_ring cX3_ring 2 (some .int)) ∈ TB := tb1 129 rfl rfl
theorem m1_132 : (Cond.instanceMethod yX2_toldAt) ∈ TB := tb1 132 rfl rfl
theorem m1_133 : (Cond.code yX2_toldAt cX2_toldAt 2 (some .int)) ∈ TB := tb1 133 rfl rfl
theorem m1_134 : (Cond.methodLink RL 86 yX3_density) ∈ TB := tb1 134 rfl rfl
theorem m1_135 : (Cond.instanceMethod yX3_density) ∈ TB := tb1 135 rfl rfl
theorem m1_136 : (Cond.selects RX3 yX3_density yX3_density) ∈ TB := tb1 136 rfl rfl
theorem m1_137 : (Cond.code yX3_density cX3_density 3 (some .int)) ∈ TB := tb1 137 rfl rfl
theorem m1_140 : (Cond.instanceMethod yX0_longNetsAt) ∈ TB := tb1 140 rfl rfl
theorem m1_141 : (Cond.code yX0_longNetsAt cX0_longNetsAt 4 (some .int)) ∈ TB := tb1 141 rfl rfl
theorem m1_142 : (Cond.methodLink RX0 35 yX0_isLong) ∈ TB := tb1 142 rfl rfl
theorem m1_144 : (Cond.instanceMethod yX0_isLong) ∈ TB := tb1 144 rfl rfl
theorem m1_145 : (Cond.code yX0_isLong cX0_isLong 2 (some .boolean)) ∈ TB := tb1 145 rfl rfl
theorem m1_146 : (Cond.methodLink RX0 32 yX0_kindOf) ∈ TB := tb1 146 rfl rfl
theorem m1_148 : (Cond.instanceMethod yX0_kindOf) ∈ TB := tb1 148 rfl rfl
theorem m1_149 : (Cond.code yX0_kindOf cX0_kindOf 3 (some .int)) ∈ TB := tb1 149 rfl rfl
theorem m1_150 : (Cond.methodLink RX0 22 yX0_pinsOf) ∈ TB := tb1 150 rfl rfl
theorem m1_152 : (Cond.instanceMethod yX0_pinsOf) ∈ TB := tb1 152 rfl rfl
theorem m1_153 : (Cond.code yX0_pinsOf cX0_pinsOf 4 (some .int)) ∈ TB := tb1 153 rfl rfl
theorem m1_154 : (Cond.methodLink RX0 26 yX0_firstColumn) ∈ TB := tb1 154 rfl rfl
theorem m1_156 : (Cond.instanceMethod yX0_firstColumn) ∈ TB := tb1 156 rfl rfl
theorem m1_157 : (Cond.code yX0_firstColumn cX0_firstColumn 3 (some .int)) ∈ TB := tb1 157 rfl rfl
theorem m1_158 : (Cond.methodLink RX0 18 yX0_has) ∈ TB := tb1 158 rfl rfl
theorem m1_160 : (Cond.instanceMethod yX0_has) ∈ TB := tb1 160 rfl rfl
theorem m1_161 : (Cond.code yX0_has cX0_has 3 (some .boolean)) ∈ TB := tb1 161 rfl rfl
theorem m1_162 : (Cond.methodLink RX0 29 yX0_lastColumn) ∈ TB := tb1 162 rfl rfl
theorem m1_164 : (Cond.instanceMethod yX0_lastColumn) ∈ TB := tb1 164 rfl rfl
theorem m1_165 : (Cond.code yX0_lastColumn cX0_lastColumn 3 (some .int)) ∈ TB := tb1 165 rfl rfl
theorem m1_166 : (Cond.methodLink RX3 141 yJ9_max_7cf53) ∈ TB := tb1 166 rfl rfl
theorem m1_167 : (Cond.static yJ9_max_7cf53) ∈ TB := tb1 167 rfl rfl
theorem m1_168 : (Cond.code yJ9_max_7cf53 cJ9_max_7cf53 2 (some .int)) ∈ TB := tb1 168 rfl rfl
theorem m1_169 : (Cond.methodLink RL 90 yX3_pairs) ∈ TB := tb1 169 rfl rfl
theorem m1_170 : (Cond.instanceMethod yX3_pairs) ∈ TB := tb1 170 rfl rfl
theorem m1_171 : (Cond.selects RX3 yX3_pairs yX3_pairs) ∈ TB := tb1 171 rfl rfl
theorem m1_172 : (Cond.code yX3_pairs cX3_pairs 2 (some .int)) ∈ TB := tb1 172 rfl rfl
theorem m1_175 : (Cond.instanceMethod yX1_draw) ∈ TB := tb1 175 rfl rfl
theorem m1_176 : (Cond.code yX1_draw cX1_draw 4 none) ∈ TB := tb1 176 rfl rfl
theorem m1_177 : (Cond.methodLink RX1 41 yX1_clear) ∈ TB := tb1 177 rfl rfl
theorem m1_179 : (Cond.instanceMethod yX1_clear) ∈ TB := tb1 179 rfl rfl
theorem m1_180 : (Cond.code yX1_clear cX1_clear 1 none) ∈ TB := tb1 180 rfl rfl
theorem m1_182 : (Cond.methodLink RX1 50 yX1_addPieces) ∈ TB := tb1 182 rfl rfl
theorem m1_184 : (Cond.instanceMethod yX1_addPieces) ∈ TB := tb1 184 rfl rfl
theorem m1_185 : (Cond.code yX1_addPieces cX1_addPieces 5 none) ∈ TB := tb1 185 rfl rfl
theorem m1_187 : (Cond.methodLink RX1 72 yX1_add) ∈ TB := tb1 187 rfl rfl
theorem m1_189 : (Cond.instanceMethod yX1_add) ∈ TB := tb1 189 rfl rfl
theorem m1_190 : (Cond.code yX1_add cX1_add 5 none) ∈ TB := tb1 190 rfl rfl
theorem m1_191 : (Cond.methodLink RX1 54 yX1_addWhole) ∈ TB := tb1 191 rfl rfl
theorem m1_193 : (Cond.instanceMethod yX1_addWhole) ∈ TB := tb1 193 rfl rfl
theorem m1_194 : (Cond.code yX1_addWhole cX1_addWhole 5 none) ∈ TB := tb1 194 rfl rfl
theorem m1_197 : (Cond.methodLink RX1 57 yX1_findBelow) ∈ TB := tb1 197 rfl rfl
theorem m1_199 : (Cond.instanceMethod yX1_findBelow) ∈ TB := tb1 199 rfl rfl
theorem m1_200 : (Cond.code yX1_findBelow cX1_findBelow 5 none) ∈ TB := tb1 200 rfl rfl
theorem m1_201 : (Cond.methodLink RX1 76 yJ7_fill_d0a16) ∈ TB := tb1 201 rfl rfl
theorem m1_202 : (Cond.static yJ7_fill_d0a16) ∈ TB := tb1 202 rfl rfl
theorem m1_203 : (Cond.code yJ7_fill_d0a16 cJ7_fill_d0a16 5 none) ∈ TB := tb1 203 rfl rfl
theorem m1_204 : (Cond.methodLink RX1 88 yX1_touching) ∈ TB := tb1 204 rfl rfl
theorem m1_206 : (Cond.instanceMethod yX1_touching) ∈ TB := tb1 206 rfl rfl
theorem m1_207 : (Cond.code yX1_touching cX1_touching 6 (some .long)) ∈ TB := tb1 207 rfl rfl
theorem m1_208 : (Cond.methodLink RX1 100 yX1_touches) ∈ TB := tb1 208 rfl rfl
theorem m1_210 : (Cond.instanceMethod yX1_touches) ∈ TB := tb1 210 rfl rfl
theorem m1_211 : (Cond.code yX1_touches cX1_touches 4 (some .boolean)) ∈ TB := tb1 211 rfl rfl
theorem m1_212 : (Cond.methodLink RX1 92 yX1_addBelow) ∈ TB := tb1 212 rfl rfl
theorem m1_214 : (Cond.instanceMethod yX1_addBelow) ∈ TB := tb1 214 rfl rfl
theorem m1_215 : (Cond.code yX1_addBelow cX1_addBelow 6 none) ∈ TB := tb1 215 rfl rfl
theorem m1_216 : (Cond.methodLink RX1 96 yX1_isIn) ∈ TB := tb1 216 rfl rfl
theorem m1_217 : (Cond.static yX1_isIn) ∈ TB := tb1 217 rfl rfl
theorem m1_218 : (Cond.code yX1_isIn cX1_isIn 3 (some .boolean)) ∈ TB := tb1 218 rfl rfl
theorem m1_221 : (Cond.instanceMethod yX1_countPairs) ∈ TB := tb1 221 rfl rfl
theorem m1_222 : (Cond.code yX1_countPairs cX1_countPairs 3 (some .int)) ∈ TB := tb1 222 rfl rfl
theorem m1_223 : (Cond.methodLink RX1 104 yJ13_bitCount_95d88) ∈ TB := tb1 223 rfl rfl
theorem m1_224 : (Cond.static yJ13_bitCount_95d88) ∈ TB := tb1 224 rfl rfl
theorem m1_225 : (Cond.code yJ13_bitCount_95d88 cJ13_bitCount_95d88 2 (some .int)) ∈ TB := tb1 225 rfl rfl
theorem m1_226 : (Cond.constantLong RJ13 314 (6148914691236517205)) ∈ TB := tb1 226 rfl rfl
theorem m1_227 : (Cond.constantLong RJ13 316 (3689348814741910323)) ∈ TB := tb1 227 rfl rfl
theorem m1_228 : (Cond.constantLong RJ13 318 (1085102592571150095)) ∈ TB := tb1 228 rfl rfl
theorem m1_229 : (Cond.methodLink RL 101 yX3_used) ∈ TB := tb1 229 rfl rfl
theorem m1_230 : (Cond.instanceMethod yX3_used) ∈ TB := tb1 230 rfl rfl
theorem m1_231 : (Cond.selects RX3 yX3_used yX3_used) ∈ TB := tb1 231 rfl rfl
theorem m1_232 : (Cond.code yX3_used cX3_used 1 (some .float)) ∈ TB := tb1 232 rfl rfl
theorem m1_235 : (Cond.instanceMethod yX1_countPoints) ∈ TB := tb1 235 rfl rfl
theorem m1_236 : (Cond.code yX1_countPoints cX1_countPoints 4 (some .int)) ∈ TB := tb1 236 rfl rfl
theorem m1_237 : (Cond.methodLink RX1 134 yX1_netOn) ∈ TB := tb1 237 rfl rfl
theorem m1_239 : (Cond.instanceMethod yX1_netOn) ∈ TB := tb1 239 rfl rfl
theorem m2_0 : (Cond.code yX1_netOn cX1_netOn 4 (some .int)) ∈ TB := tb2 0 rfl rfl
theorem m2_1 : (Cond.methodLink RL 52 yL_pin) ∈ TB := tb2 1 rfl rfl
theorem m2_2 : (Cond.static yL_pin) ∈ TB := tb2 2 rfl rfl
theorem m2_3 : (Cond.codeWith yL_pin cL_pin 6 (some .int) [(0, 12, 15, 13), (0, 12, 19, 15)]) ∈ TB := tb2 3 rfl rfl
theorem m2_4 : (Cond.classLink RL 13 "java/lang/IndexOutOfBoundsException") ∈ TB := tb2 4 rfl rfl
theorem m2_5 : (Cond.classLink RL 15 "java/lang/IllegalArgumentException") ∈ TB := tb2 5 rfl rfl
theorem m2_6 : (Cond.methodLink RL 7 yX3_pin) ∈ TB := tb2 6 rfl rfl
theorem m2_7 : (Cond.instanceMethod yX3_pin) ∈ TB := tb2 7 rfl rfl
theorem m2_8 : (Cond.selects RX3 yX3_pin yX3_pin) ∈ TB := tb2 8 rfl rfl
theorem m2_9 : (Cond.code yX3_pin cX3_pin 4 (some .int)) ∈ TB := tb2 9 rfl rfl
theorem m2_10 : (Cond.methodLink RX3 44 yX3_isColumn) ∈ TB := tb2 10 rfl rfl
theorem m2_11 : (Cond.static yX3_isColumn) ∈ TB := tb2 11 rfl rfl
theorem m2_12 : (Cond.code yX3_isColumn cX3_isColumn 1 (some .boolean)) ∈ TB := tb2 12 rfl rfl
theorem m2_13 : (Cond.classLink RX3 48 "java/lang/IndexOutOfBoundsException") ∈ TB := tb2 13 rfl rfl
theorem m2_14 : (Cond.instantiable "java/lang/IndexOutOfBoundsException" 6) ∈ TB := tb2 14 rfl rfl
theorem m2_22 : (Cond.selects "java/lang/IndexOutOfBoundsException" ⟨"java/lang/Throwable", "fillInStackTrace", "(I)Ljava/lang/Throwable;"⟩ ⟨"java/lang/Throwable", "fillInStackTrace", "(I)Ljava/lang/Throwable;"⟩) ∈ TB := tb2 22 rfl rfl
theorem m2_23 : (Cond.selects "java/lang/IndexOutOfBoundsException" ⟨"java/lang/Throwable", "fillInStackTrace", "()Ljava/lang/Throwable;"⟩ ⟨"java/lang/Throwable", "fillInStackTrace", "()Ljava/lang/Throwable;"⟩) ∈ TB := tb2 23 rfl rfl
theorem m2_34 : (Cond.fieldLink "java/lang/Throwable" 198 "java/lang/Throwable" "backtrace" "Ljava/lang/Object;") ∈ TB := tb2 34 rfl rfl
theorem m2_36 : (Cond.instanceMethod ⟨"java/lang/Throwable", "<init>", "()V"⟩) ∈ TB := tb2 36 rfl rfl
theorem m2_37 : (Cond.code ⟨"java/lang/Throwable", "<init>", "()V"⟩ prog_16_method_1_code 1 none) ∈ TB := tb2 37 rfl rfl
theorem m2_38 : (Cond.methodLink "java/lang/Throwable" 1 objectInit) ∈ TB := tb2 38 rfl rfl
theorem m2_39 : (Cond.fieldLink "java/lang/Throwable" 13 "java/lang/Throwable" "UNASSIGNED_STACK" "[Ljava/lang/StackTraceElement;") ∈ TB := tb2 39 rfl rfl
theorem m2_41 : (Cond.fieldLink "java/lang/Throwable" 20 "java/lang/Throwable" "SUPPRESSED_SENTINEL" "Ljava/util/List;") ∈ TB := tb2 41 rfl rfl
theorem m2_43 : (Cond.methodLink "java/lang/Throwable" 27 ⟨"java/lang/Throwable", "fillInStackTrace", "()Ljava/lang/Throwable;"⟩) ∈ TB := tb2 43 rfl rfl
theorem m2_44 : (Cond.instanceMethod ⟨"java/lang/Throwable", "fillInStackTrace", "()Ljava/lang/Throwable;"⟩) ∈ TB := tb2 44 rfl rfl
theorem m2_46 : (Cond.selects "java/lang/IllegalArgumentException" ⟨"java/lang/Throwable", "fillInStackTrace", "()Ljava/lang/Throwable;"⟩ ⟨"java/lang/Throwable", "fillInStackTrace", "()Ljava/lang/Throwable;"⟩) ∈ TB := tb2 46 rfl rfl
theorem m2_47 : (Cond.selects "java/lang/IllegalStateException" ⟨"java/lang/Throwable", "fillInStackTrace", "()Ljava/lang/Throwable;"⟩ ⟨"java/lang/Throwable", "fillInStackTrace", "()Ljava/lang/Throwable;"⟩) ∈ TB := tb2 47 rfl rfl
theorem m2_49 : (Cond.methodLink "java/lang/Throwable" 202 ⟨"java/lang/Throwable", "fillInStackTrace", "(I)Ljava/lang/Throwable;"⟩) ∈ TB := tb2 49 rfl rfl
theorem m2_51 : (Cond.instanceMethod ⟨"java/lang/Throwable", "fillInStackTrace", "(I)Ljava/lang/Throwable;"⟩) ∈ TB := tb2 51 rfl rfl
theorem m2_52 : (Cond.instantiable "java/lang/Throwable" 6) ∈ TB := tb2 52 rfl rfl
theorem m2_53 : (Cond.native ⟨"java/lang/Throwable", "fillInStackTrace", "(I)Ljava/lang/Throwable;"⟩) ∈ TB := tb2 53 rfl rfl
theorem m2_55 : (Cond.methodLink RX3 52 ⟨"java/lang/IndexOutOfBoundsException", "<init>", "(Ljava/lang/String;)V"⟩) ∈ TB := tb2 55 rfl rfl
theorem m2_56 : (Cond.instanceMethod ⟨"java/lang/IndexOutOfBoundsException", "<init>", "(Ljava/lang/String;)V"⟩) ∈ TB := tb2 56 rfl rfl
theorem m2_57 : (Cond.code ⟨"java/lang/IndexOutOfBoundsException", "<init>", "(Ljava/lang/String;)V"⟩ prog_10_method_2_code 2 none) ∈ TB := tb2 57 rfl rfl
theorem m2_58 : (Cond.methodLink "java/lang/IndexOutOfBoundsException" 7 ⟨"java/lang/RuntimeException", "<init>", "(Ljava/lang/String;)V"⟩) ∈ TB := tb2 58 rfl rfl
theorem m2_59 : (Cond.instanceMethod ⟨"java/lang/RuntimeException", "<init>", "(Ljava/lang/String;)V"⟩) ∈ TB := tb2 59 rfl rfl
theorem m2_60 : (Cond.code ⟨"java/lang/RuntimeException", "<init>", "(Ljava/lang/String;)V"⟩ prog_13_method_2_code 2 none) ∈ TB := tb2 60 rfl rfl
theorem m2_61 : (Cond.methodLink "java/lang/RuntimeException" 7 ⟨"java/lang/Exception", "<init>", "(Ljava/lang/String;)V"⟩) ∈ TB := tb2 61 rfl rfl
theorem m2_62 : (Cond.instanceMethod ⟨"java/lang/Exception", "<init>", "(Ljava/lang/String;)V"⟩) ∈ TB := tb2 62 rfl rfl
theorem m2_63 : (Cond.code ⟨"java/lang/Exception", "<init>", "(Ljava/lang/String;)V"⟩ prog_7_method_2_code 2 none) ∈ TB := tb2 63 rfl rfl
theorem m2_64 : (Cond.methodLink "java/lang/Exception" 7 ⟨"java/lang/Throwable", "<init>", "(Ljava/lang/String;)V"⟩) ∈ TB := tb2 64 rfl rfl
theorem m2_65 : (Cond.instanceMethod ⟨"java/lang/Throwable", "<init>", "(Ljava/lang/String;)V"⟩) ∈ TB := tb2 65 rfl rfl
theorem m2_66 : (Cond.code ⟨"java/lang/Throwable", "<init>", "(Ljava/lang/String;)V"⟩ prog_16_method_2_code 2 none) ∈ TB := tb2 66 rfl rfl
theorem m2_67 : (Cond.fieldLink "java/lang/Throwable" 198 "java/lang/Throwable" "backtrace" "Ljava/lang/Object;") ∈ TB := tb2 67 rfl rfl
theorem m2_68 : (Cond.fieldLink "java/lang/Throwable" 31 "java/lang/Throwable" "detailMessage" "Ljava/lang/String;") ∈ TB := tb2 68 rfl rfl
theorem m2_69 : (Cond.fieldLink "java/lang/Throwable" 7 "java/lang/Throwable" "cause" "Ljava/lang/Throwable;") ∈ TB := tb2 69 rfl rfl
theorem m2_70 : (Cond.fieldLink "java/lang/Throwable" 17 "java/lang/Throwable" "stackTrace" "[Ljava/lang/StackTraceElement;") ∈ TB := tb2 70 rfl rfl
theorem m2_71 : (Cond.fieldLink "java/lang/Throwable" 24 "java/lang/Throwable" "suppressedExceptions" "Ljava/util/List;") ∈ TB := tb2 71 rfl rfl
theorem m2_80 : (Cond.arrayClass .byte) ∈ TB := tb2 80 rfl rfl
theorem m2_81 : (Cond.methodLink RX3 55 yX3_isNet) ∈ TB := tb2 81 rfl rfl
theorem m2_82 : (Cond.static yX3_isNet) ∈ TB := tb2 82 rfl rfl
theorem m2_83 : (Cond.code yX3_isNet cX3_isNet 1 (some .boolean)) ∈ TB := tb2 83 rfl rfl
theorem m2_84 : (Cond.classLink RX3 58 "java/lang/IllegalArgumentException") ∈ TB := tb2 84 rfl rfl
theorem m2_85 : (Cond.instantiable "java/lang/IllegalArgumentException" 6) ∈ TB := tb2 85 rfl rfl
theorem m2_87 : (Cond.selects "java/lang/IllegalArgumentException" ⟨"java/lang/Throwable", "fillInStackTrace", "(I)Ljava/lang/Throwable;"⟩ ⟨"java/lang/Throwable", "fillInStackTrace", "(I)Ljava/lang/Throwable;"⟩) ∈ TB := tb2 87 rfl rfl
theorem m2_94 : (Cond.methodLink RX3 62 ⟨"java/lang/IllegalArgumentException", "<init>", "(Ljava/lang/String;)V"⟩) ∈ TB := tb2 94 rfl rfl
theorem m2_95 : (Cond.instanceMethod ⟨"java/lang/IllegalArgumentException", "<init>", "(Ljava/lang/String;)V"⟩) ∈ TB := tb2 95 rfl rfl
theorem m2_96 : (Cond.code ⟨"java/lang/IllegalArgumentException", "<init>", "(Ljava/lang/String;)V"⟩ prog_8_method_2_code 2 none) ∈ TB := tb2 96 rfl rfl
theorem m2_97 : (Cond.methodLink "java/lang/IllegalArgumentException" 7 ⟨"java/lang/RuntimeException", "<init>", "(Ljava/lang/String;)V"⟩) ∈ TB := tb2 97 rfl rfl
theorem m2_103 : (Cond.instanceMethod yX0_put) ∈ TB := tb2 103 rfl rfl
theorem m2_104 : (Cond.code yX0_put cX0_put 6 (some .int)) ∈ TB := tb2 104 rfl rfl
theorem m2_105 : (Cond.methodLink RL 61 yL_lay) ∈ TB := tb2 105 rfl rfl
theorem m2_106 : (Cond.static yL_lay) ∈ TB := tb2 106 rfl rfl
theorem m2_107 : (Cond.codeWith yL_lay cL_lay 4 (some .int) [(0, 9, 12, 15), (0, 9, 15, 21)]) ∈ TB := tb2 107 rfl rfl
theorem m2_108 : (Cond.classLink RL 21 "java/lang/IllegalStateException") ∈ TB := tb2 108 rfl rfl
theorem m2_109 : (Cond.methodLink RL 17 yX3_lay) ∈ TB := tb2 109 rfl rfl
theorem m2_110 : (Cond.instanceMethod yX3_lay) ∈ TB := tb2 110 rfl rfl
theorem m2_111 : (Cond.selects RX3 yX3_lay yX3_lay) ∈ TB := tb2 111 rfl rfl
theorem m2_112 : (Cond.code yX3_lay cX3_lay 2 (some .int)) ∈ TB := tb2 112 rfl rfl
theorem m2_115 : (Cond.instanceMethod yX0_anySingle) ∈ TB := tb2 115 rfl rfl
theorem m2_116 : (Cond.code yX0_anySingle cX0_anySingle 2 (some .boolean)) ∈ TB := tb2 116 rfl rfl
theorem m2_118 : (Cond.methodLink RX3 76 yX3_draftHasRing) ∈ TB := tb2 118 rfl rfl
theorem m2_120 : (Cond.instanceMethod yX3_draftHasRing) ∈ TB := tb2 120 rfl rfl
theorem m2_121 : (Cond.code yX3_draftHasRing cX3_draftHasRing 2 (some .boolean)) ∈ TB := tb2 121 rfl rfl
theorem m2_124 : (Cond.instanceMethod yX2_lowestInRing) ∈ TB := tb2 124 rfl rfl
theorem m2_125 : (Cond.code yX2_lowestInRing cX2_lowestInRing 3 (some .int)) ∈ TB := tb2 125 rfl rfl
theorem m2_126 : (Cond.methodLink RX2 26 yX2_findReach) ∈ TB := tb2 126 rfl rfl
theorem m2_128 : (Cond.instanceMethod yX2_findReach) ∈ TB := tb2 128 rfl rfl
theorem m2_129 : (Cond.code yX2_findReach cX2_findReach 4 none) ∈ TB := tb2 129 rfl rfl
theorem m2_130 : (Cond.methodLink RX2 42 ⟨"java/lang/System", "arraycopy", "(Ljava/lang/Object;ILjava/lang/Object;II)V"⟩) ∈ TB := tb2 130 rfl rfl
theorem m2_131 : (Cond.static ⟨"java/lang/System", "arraycopy", "(Ljava/lang/Object;ILjava/lang/Object;II)V"⟩) ∈ TB := tb2 131 rfl rfl
theorem m2_132 : (Cond.native ⟨"java/lang/System", "arraycopy", "(Ljava/lang/Object;ILjava/lang/Object;II)V"⟩) ∈ TB := tb2 132 rfl rfl
theorem m2_134 : (Cond.methodLink RX3 80 yX3_tellRingOfDraft) ∈ TB := tb2 134 rfl rfl
theorem m2_136 : (Cond.instanceMethod yX3_tellRingOfDraft) ∈ TB := tb2 136 rfl rfl
theorem m2_137 : (Cond.code yX3_tellRingOfDraft cX3_tellRingOfDraft 1 none) ∈ TB := tb2 137 rfl rfl
theorem m2_140 : (Cond.instanceMethod yX2_tell) ∈ TB := tb2 140 rfl rfl
theorem m2_141 : (Cond.code yX2_tell cX2_tell 4 none) ∈ TB := tb2 141 rfl rfl
theorem m2_142 : (Cond.methodLink RX2 48 yX2_lowestInRing) ∈ TB := tb2 142 rfl rfl
theorem m2_143 : (Cond.methodLink RX2 52 yX2_countStepsTo) ∈ TB := tb2 143 rfl rfl
theorem m2_145 : (Cond.instanceMethod yX2_countStepsTo) ∈ TB := tb2 145 rfl rfl
theorem m2_146 : (Cond.code yX2_countStepsTo cX2_countStepsTo 9 none) ∈ TB := tb2 146 rfl rfl
theorem m2_147 : (Cond.methodLink RX2 60 yJ7_fill_53178) ∈ TB := tb2 147 rfl rfl
theorem m2_148 : (Cond.static yJ7_fill_53178) ∈ TB := tb2 148 rfl rfl
theorem m2_149 : (Cond.code yJ7_fill_53178 cJ7_fill_53178 4 none) ∈ TB := tb2 149 rfl rfl
theorem m2_150 : (Cond.methodLink RX2 56 yX2_nearestBelow) ∈ TB := tb2 150 rfl rfl
theorem m2_152 : (Cond.instanceMethod yX2_nearestBelow) ∈ TB := tb2 152 rfl rfl
theorem m2_153 : (Cond.code yX2_nearestBelow cX2_nearestBelow 5 (some .int)) ∈ TB := tb2 153 rfl rfl
theorem m2_154 : (Cond.classLink RX3 83 "java/lang/IllegalStateException") ∈ TB := tb2 154 rfl rfl
theorem m2_155 : (Cond.instantiable "java/lang/IllegalStateException" 6) ∈ TB := tb2 155 rfl rfl
theorem m2_157 : (Cond.selects "java/lang/IllegalStateException" ⟨"java/lang/Throwable", "fillInStackTrace", "(I)Ljava/lang/Throwable;"⟩ ⟨"java/lang/Throwable", "fillInStackTrace", "(I)Ljava/lang/Throwable;"⟩) ∈ TB := tb2 157 rfl rfl
theorem m2_164 : (Cond.methodLink RX3 87 ⟨"java/lang/IllegalStateException", "<init>", "(Ljava/lang/String;)V"⟩) ∈ TB := tb2 164 rfl rfl
theorem m2_165 : (Cond.instanceMethod ⟨"java/lang/IllegalStateException", "<init>", "(Ljava/lang/String;)V"⟩) ∈ TB := tb2 165 rfl rfl
theorem m2_166 : (Cond.code ⟨"java/lang/IllegalStateException", "<init>", "(Ljava/lang/String;)V"⟩ prog_9_method_2_code 2 none) ∈ TB := tb2 166 rfl rfl
theorem m2_167 : (Cond.methodLink "java/lang/IllegalStateException" 7 ⟨"java/lang/RuntimeException", "<init>", "(Ljava/lang/String;)V"⟩) ∈ TB := tb2 167 rfl rfl
theorem m2_170 : (Cond.methodLink RX3 88 yX3_keepDraft) ∈ TB := tb2 170 rfl rfl
theorem m2_172 : (Cond.instanceMethod yX3_keepDraft) ∈ TB := tb2 172 rfl rfl
theorem m2_173 : (Cond.code yX3_keepDraft cX3_keepDraft 2 none) ∈ TB := tb2 173 rfl rfl
theorem m2_176 : (Cond.instanceMethod yX1_fillTracks) ∈ TB := tb2 176 rfl rfl
theorem m2_177 : (Cond.code yX1_fillTracks cX1_fillTracks 3 none) ∈ TB := tb2 177 rfl rfl
theorem m2_178 : (Cond.methodLink RX1 110 yX1_sortByLeft) ∈ TB := tb2 178 rfl rfl
theorem m2_180 : (Cond.instanceMethod yX1_sortByLeft) ∈ TB := tb2 180 rfl rfl
theorem m2_181 : (Cond.code yX1_sortByLeft cX1_sortByLeft 4 none) ∈ TB := tb2 181 rfl rfl
theorem m2_182 : (Cond.methodLink RX1 113 yX1_belowAnyOf) ∈ TB := tb2 182 rfl rfl
theorem m2_184 : (Cond.instanceMethod yX1_belowAnyOf) ∈ TB := tb2 184 rfl rfl
theorem m2_185 : (Cond.code yX1_belowAnyOf cX1_belowAnyOf 6 (some .long)) ∈ TB := tb2 185 rfl rfl
theorem m2_186 : (Cond.constantLong RX1 117 (-1)) ∈ TB := tb2 186 rfl rfl
theorem m2_187 : (Cond.methodLink RX1 119 yX1_fillTrack) ∈ TB := tb2 187 rfl rfl
theorem m2_189 : (Cond.instanceMethod yX1_fillTrack) ∈ TB := tb2 189 rfl rfl
theorem m2_190 : (Cond.code yX1_fillTrack cX1_fillTrack 8 (some .long)) ∈ TB := tb2 190 rfl rfl
theorem m2_191 : (Cond.methodLink RX1 122 yX1_fitsBehind) ∈ TB := tb2 191 rfl rfl
theorem m2_193 : (Cond.instanceMethod yX1_fitsBehind) ∈ TB := tb2 193 rfl rfl
theorem m2_194 : (Cond.code yX1_fitsBehind cX1_fitsBehind 3 (some .boolean)) ∈ TB := tb2 194 rfl rfl
theorem m2_195 : (Cond.methodLink RL 65 yL_layAny) ∈ TB := tb2 195 rfl rfl
theorem m2_196 : (Cond.static yL_layAny) ∈ TB := tb2 196 rfl rfl
theorem m2_197 : (Cond.codeWith yL_layAny cL_layAny 3 (some .int) [(0, 8, 11, 15), (0, 8, 14, 21)]) ∈ TB := tb2 197 rfl rfl
theorem m2_198 : (Cond.methodLink RL 23 yX3_layAny) ∈ TB := tb2 198 rfl rfl
theorem m2_199 : (Cond.instanceMethod yX3_layAny) ∈ TB := tb2 199 rfl rfl
theorem m2_200 : (Cond.selects RX3 yX3_layAny yX3_layAny) ∈ TB := tb2 200 rfl rfl
theorem m2_201 : (Cond.code yX3_layAny cX3_layAny 2 (some .int)) ∈ TB := tb2 201 rfl rfl
theorem m2_203 : (Cond.methodLink RL 73 yL_segment) ∈ TB := tb2 203 rfl rfl
theorem m2_204 : (Cond.static yL_segment) ∈ TB := tb2 204 rfl rfl
theorem m2_205 : (Cond.codeWith yL_segment cL_segment 5 (some .int) [(0, 10, 13, 13)]) ∈ TB := tb2 205 rfl rfl
theorem m2_206 : (Cond.methodLink RL 27 yX3_segment) ∈ TB := tb2 206 rfl rfl
theorem m2_207 : (Cond.instanceMethod yX3_segment) ∈ TB := tb2 207 rfl rfl
theorem m2_208 : (Cond.selects RX3 yX3_segment yX3_segment) ∈ TB := tb2 208 rfl rfl
theorem m2_209 : (Cond.code yX3_segment cX3_segment 3 (some .int)) ∈ TB := tb2 209 rfl rfl
theorem m2_212 : (Cond.methodLink RL 77 yL_level) ∈ TB := tb2 212 rfl rfl
theorem m2_213 : (Cond.static yL_level) ∈ TB := tb2 213 rfl rfl
theorem m2_214 : (Cond.codeWith yL_level cL_level 5 (some .int) [(0, 10, 13, 13)]) ∈ TB := tb2 214 rfl rfl
theorem m2_215 : (Cond.methodLink RL 31 yX3_level) ∈ TB := tb2 215 rfl rfl
theorem m2_216 : (Cond.instanceMethod yX3_level) ∈ TB := tb2 216 rfl rfl
theorem m2_217 : (Cond.selects RX3 yX3_level yX3_level) ∈ TB := tb2 217 rfl rfl
theorem m2_218 : (Cond.code yX3_level cX3_level 3 (some .int)) ∈ TB := tb2 218 rfl rfl
theorem m2_219 : (Cond.methodLink RX3 120 yX3_isTrack) ∈ TB := tb2 219 rfl rfl
theorem m2_221 : (Cond.instanceMethod yX3_isTrack) ∈ TB := tb2 221 rfl rfl
theorem m2_222 : (Cond.code yX3_isTrack cX3_isTrack 2 (some .boolean)) ∈ TB := tb2 222 rfl rfl
theorem m2_225 : (Cond.methodLink RL 80 yL_upright) ∈ TB := tb2 225 rfl rfl
theorem m2_226 : (Cond.static yL_upright) ∈ TB := tb2 226 rfl rfl
theorem m2_227 : (Cond.codeWith yL_upright cL_upright 5 (some .int) [(0, 10, 13, 13)]) ∈ TB := tb2 227 rfl rfl
theorem m2_228 : (Cond.methodLink RL 34 yX3_upright) ∈ TB := tb2 228 rfl rfl
theorem m2_229 : (Cond.instanceMethod yX3_upright) ∈ TB := tb2 229 rfl rfl
theorem m2_230 : (Cond.selects RX3 yX3_upright yX3_upright) ∈ TB := tb2 230 rfl rfl
theorem m2_231 : (Cond.code yX3_upright cX3_upright 3 (some .int)) ∈ TB := tb2 231 rfl rfl
theorem m2_233 : (Cond.methodLink RX3 131 yX3_uprightNet) ∈ TB := tb2 233 rfl rfl
theorem m2_235 : (Cond.instanceMethod yX3_uprightNet) ∈ TB := tb2 235 rfl rfl
theorem m2_236 : (Cond.code yX3_uprightNet cX3_uprightNet 5 (some .int)) ∈ TB := tb2 236 rfl rfl
theorem m2_239 : (Cond.instanceMethod yX1_greatestTrack) ∈ TB := tb2 239 rfl rfl
theorem m3_0 : (Cond.code yX1_greatestTrack cX1_greatestTrack 5 (some .int)) ∈ TB := tb3 0 rfl rfl
theorem m3_1 : (Cond.methodLink RX1 125 yJ9_max_7cf53) ∈ TB := tb3 1 rfl rfl
theorem m3_4 : (Cond.instanceMethod yX1_leastTrack) ∈ TB := tb3 4 rfl rfl
theorem m3_5 : (Cond.code yX1_leastTrack cX1_leastTrack 5 (some .int)) ∈ TB := tb3 5 rfl rfl
theorem m3_6 : (Cond.methodLink RX1 131 yJ9_min_7cf53) ∈ TB := tb3 6 rfl rfl
theorem m3_7 : (Cond.static yJ9_min_7cf53) ∈ TB := tb3 7 rfl rfl
theorem m3_8 : (Cond.code yJ9_min_7cf53 cJ9_min_7cf53 2 (some .int)) ∈ TB := tb3 8 rfl rfl
theorem m3_9 : (Cond.methodLink RL 83 yL_via) ∈ TB := tb3 9 rfl rfl
theorem m3_10 : (Cond.static yL_via) ∈ TB := tb3 10 rfl rfl
theorem m3_11 : (Cond.codeWith yL_via cL_via 5 (some .int) [(0, 17, 20, 13)]) ∈ TB := tb3 11 rfl rfl
theorem m3_12 : (Cond.methodLink RL 37 yX3_via) ∈ TB := tb3 12 rfl rfl
theorem m3_13 : (Cond.instanceMethod yX3_via) ∈ TB := tb3 13 rfl rfl
theorem m3_14 : (Cond.selects RX3 yX3_via yX3_via) ∈ TB := tb3 14 rfl rfl
theorem m3_15 : (Cond.code yX3_via cX3_via 3 (some .boolean)) ∈ TB := tb3 15 rfl rfl
theorem m3_16 : (Cond.methodLink RX3 134 yX3_isVia) ∈ TB := tb3 16 rfl rfl
theorem m3_18 : (Cond.instanceMethod yX3_isVia) ∈ TB := tb3 18 rfl rfl
theorem m3_19 : (Cond.code yX3_isVia cX3_isVia 4 (some .boolean)) ∈ TB := tb3 19 rfl rfl
theorem m3_22 : (Cond.instanceMethod yX1_touchesOn) ∈ TB := tb3 22 rfl rfl
theorem m3_23 : (Cond.code yX1_touchesOn cX1_touchesOn 5 (some .boolean)) ∈ TB := tb3 23 rfl rfl
theorem m3_24 : (Cond.methodLink RL 94 yL_net) ∈ TB := tb3 24 rfl rfl
theorem m3_25 : (Cond.static yL_net) ∈ TB := tb3 25 rfl rfl
theorem m3_26 : (Cond.codeWith yL_net cL_net 5 (some .int) [(0, 10, 13, 13)]) ∈ TB := tb3 26 rfl rfl
theorem m3_27 : (Cond.methodLink RL 41 yX3_net) ∈ TB := tb3 27 rfl rfl
theorem m3_28 : (Cond.instanceMethod yX3_net) ∈ TB := tb3 28 rfl rfl
theorem m3_29 : (Cond.selects RX3 yX3_net yX3_net) ∈ TB := tb3 29 rfl rfl
theorem m3_30 : (Cond.code yX3_net cX3_net 3 (some .int)) ∈ TB := tb3 30 rfl rfl
theorem m3_36 : (Cond.methodLink RL 97 yL_count) ∈ TB := tb3 36 rfl rfl
theorem m3_37 : (Cond.static yL_count) ∈ TB := tb3 37 rfl rfl
theorem m3_38 : (Cond.codeWith yL_count cL_count 4 (some .int) [(0, 9, 12, 13)]) ∈ TB := tb3 38 rfl rfl
theorem m3_39 : (Cond.methodLink RL 44 yX3_count) ∈ TB := tb3 39 rfl rfl
theorem m3_40 : (Cond.instanceMethod yX3_count) ∈ TB := tb3 40 rfl rfl
theorem m3_41 : (Cond.selects RX3 yX3_count yX3_count) ∈ TB := tb3 41 rfl rfl
theorem m3_42 : (Cond.code yX3_count cX3_count 2 (some .int)) ∈ TB := tb3 42 rfl rfl
theorem m3_43 : (Cond.methodLink RX3 169 yX3_countVias) ∈ TB := tb3 43 rfl rfl
theorem m3_45 : (Cond.instanceMethod yX3_countVias) ∈ TB := tb3 45 rfl rfl
theorem m3_46 : (Cond.code yX3_countVias cX3_countVias 4 (some .int)) ∈ TB := tb3 46 rfl rfl
theorem m3_47 : (Cond.classLink RL 49 RX4) ∈ TB := tb3 47 rfl rfl
theorem m3_48 : (Cond.instantiable RX4 23) ∈ TB := tb3 48 rfl rfl
theorem m3_49 : (Cond.methodLink RL 51 yX4_init) ∈ TB := tb3 49 rfl rfl
theorem m3_50 : (Cond.instanceMethod yX4_init) ∈ TB := tb3 50 rfl rfl
theorem m3_51 : (Cond.code yX4_init cX4_init 1 none) ∈ TB := tb3 51 rfl rfl
theorem m3_52 : (Cond.methodLink RX4 1 objectInit) ∈ TB := tb3 52 rfl rfl
theorem m3_53 : (Cond.fieldLink RX4 56 "ChannelRouterModel" "thrown" "I") ∈ TB := tb3 53 rfl rfl
theorem m3_54 : (Cond.fieldLink RX4 7 "ChannelRouterModel" "pins" "[I") ∈ TB := tb3 54 rfl rfl
theorem m3_55 : (Cond.fieldLink RX4 90 "ChannelRouterModel" "many" "I") ∈ TB := tb3 55 rfl rfl
theorem m3_56 : (Cond.fieldLink RX4 13 "ChannelRouterModel" "nets" "[I") ∈ TB := tb3 56 rfl rfl
theorem m3_57 : (Cond.fieldLink RX4 16 "ChannelRouterModel" "lefts" "[I") ∈ TB := tb3 57 rfl rfl
theorem m3_58 : (Cond.fieldLink RX4 19 "ChannelRouterModel" "rights" "[I") ∈ TB := tb3 58 rfl rfl
theorem m3_59 : (Cond.fieldLink RX4 22 "ChannelRouterModel" "touches" "[I") ∈ TB := tb3 59 rfl rfl
theorem m3_60 : (Cond.fieldLink RX4 25 "ChannelRouterModel" "below" "[J") ∈ TB := tb3 60 rfl rfl
theorem m3_61 : (Cond.fieldLink RX4 29 "ChannelRouterModel" "reach" "[J") ∈ TB := tb3 61 rfl rfl
theorem m3_62 : (Cond.fieldLink RX4 32 "ChannelRouterModel" "tracksOf" "[I") ∈ TB := tb3 62 rfl rfl
theorem m3_63 : (Cond.fieldLink RX4 35 "ChannelRouterModel" "steps" "[I") ∈ TB := tb3 63 rfl rfl
theorem m3_64 : (Cond.fieldLink RX4 64 "ChannelRouterModel" "laid" "Z") ∈ TB := tb3 64 rfl rfl
theorem m3_65 : (Cond.fieldLink RX4 68 "ChannelRouterModel" "laidMany" "I") ∈ TB := tb3 65 rfl rfl
theorem m3_66 : (Cond.fieldLink RX4 71 "ChannelRouterModel" "tracks" "I") ∈ TB := tb3 66 rfl rfl
theorem m3_67 : (Cond.fieldLink RX4 38 "ChannelRouterModel" "laidNet" "[I") ∈ TB := tb3 67 rfl rfl
theorem m3_68 : (Cond.fieldLink RX4 41 "ChannelRouterModel" "laidLeft" "[I") ∈ TB := tb3 68 rfl rfl
theorem m3_69 : (Cond.fieldLink RX4 44 "ChannelRouterModel" "laidRight" "[I") ∈ TB := tb3 69 rfl rfl
theorem m3_70 : (Cond.fieldLink RX4 47 "ChannelRouterModel" "laidTouch" "[I") ∈ TB := tb3 70 rfl rfl
theorem m3_71 : (Cond.fieldLink RX4 50 "ChannelRouterModel" "laidTrack" "[I") ∈ TB := tb3 71 rfl rfl
theorem m3_72 : (Cond.fieldLink RX4 112 "ChannelRouterModel" "ringSize" "I") ∈ TB := tb3 72 rfl rfl
theorem m3_73 : (Cond.fieldLink RX4 53 "ChannelRouterModel" "ringOf" "[I") ∈ TB := tb3 73 rfl rfl
theorem m3_74 : (Cond.fieldLink RX4 127 "ChannelRouterModel" "lays" "I") ∈ TB := tb3 74 rfl rfl
theorem m3_75 : (Cond.fieldLink RX4 136 "ChannelRouterModel" "refusals" "I") ∈ TB := tb3 75 rfl rfl
theorem m3_123 : (Cond.methodLink RL 58 yX4_thrown) ∈ TB := tb3 123 rfl rfl
theorem m3_124 : (Cond.instanceMethod yX4_thrown) ∈ TB := tb3 124 rfl rfl
theorem m3_125 : (Cond.selects RX4 yX4_thrown yX4_thrown) ∈ TB := tb3 125 rfl rfl
theorem m3_126 : (Cond.code yX4_thrown cX4_thrown 1 (some .int)) ∈ TB := tb3 126 rfl rfl
theorem m3_127 : (Cond.methodLink RL 57 yX4_pin) ∈ TB := tb3 127 rfl rfl
theorem m3_128 : (Cond.instanceMethod yX4_pin) ∈ TB := tb3 128 rfl rfl
theorem m3_129 : (Cond.selects RX4 yX4_pin yX4_pin) ∈ TB := tb3 129 rfl rfl
theorem m3_130 : (Cond.code yX4_pin cX4_pin 6 (some .int)) ∈ TB := tb3 130 rfl rfl
theorem m3_131 : (Cond.methodLink RX4 60 yX4_in) ∈ TB := tb3 131 rfl rfl
theorem m3_132 : (Cond.static yX4_in) ∈ TB := tb3 132 rfl rfl
theorem m3_133 : (Cond.code yX4_in cX4_in 3 (some .boolean)) ∈ TB := tb3 133 rfl rfl
theorem m3_134 : (Cond.methodLink RL 64 yX4_lay) ∈ TB := tb3 134 rfl rfl
theorem m3_135 : (Cond.instanceMethod yX4_lay) ∈ TB := tb3 135 rfl rfl
theorem m3_136 : (Cond.selects RX4 yX4_lay yX4_lay) ∈ TB := tb3 136 rfl rfl
theorem m3_137 : (Cond.code yX4_lay cX4_lay 3 (some .int)) ∈ TB := tb3 137 rfl rfl
theorem m3_138 : (Cond.methodLink RX4 139 yX4_anySingle) ∈ TB := tb3 138 rfl rfl
theorem m3_140 : (Cond.instanceMethod yX4_anySingle) ∈ TB := tb3 140 rfl rfl
theorem m3_141 : (Cond.code yX4_anySingle cX4_anySingle 3 (some .boolean)) ∈ TB := tb3 141 rfl rfl
theorem m3_142 : (Cond.methodLink RX4 87 yX4_sort) ∈ TB := tb3 142 rfl rfl
theorem m3_144 : (Cond.instanceMethod yX4_sort) ∈ TB := tb3 144 rfl rfl
theorem m3_145 : (Cond.code yX4_sort cX4_sort 4 (some .int)) ∈ TB := tb3 145 rfl rfl
theorem m3_146 : (Cond.methodLink RX4 74 yX4_pinsOf) ∈ TB := tb3 146 rfl rfl
theorem m3_148 : (Cond.instanceMethod yX4_pinsOf) ∈ TB := tb3 148 rfl rfl
theorem m3_149 : (Cond.code yX4_pinsOf cX4_pinsOf 4 (some .int)) ∈ TB := tb3 149 rfl rfl
theorem m3_150 : (Cond.methodLink RX4 78 yX4_columns) ∈ TB := tb3 150 rfl rfl
theorem m3_152 : (Cond.instanceMethod yX4_columns) ∈ TB := tb3 152 rfl rfl
theorem m3_153 : (Cond.code yX4_columns cX4_columns 4 (some .int)) ∈ TB := tb3 153 rfl rfl
theorem m3_154 : (Cond.methodLink RX4 81 yX4_lowest) ∈ TB := tb3 154 rfl rfl
theorem m3_155 : (Cond.static yX4_lowest) ∈ TB := tb3 155 rfl rfl
theorem m3_156 : (Cond.code yX4_lowest cX4_lowest 2 (some .int)) ∈ TB := tb3 156 rfl rfl
theorem m3_157 : (Cond.methodLink RX4 84 yX4_highest) ∈ TB := tb3 157 rfl rfl
theorem m3_158 : (Cond.static yX4_highest) ∈ TB := tb3 158 rfl rfl
theorem m3_159 : (Cond.code yX4_highest cX4_highest 2 (some .int)) ∈ TB := tb3 159 rfl rfl
theorem m3_160 : (Cond.methodLink RX4 143 yX4_fail) ∈ TB := tb3 160 rfl rfl
theorem m3_162 : (Cond.instanceMethod yX4_fail) ∈ TB := tb3 162 rfl rfl
theorem m3_163 : (Cond.code yX4_fail cX4_fail 2 (some .int)) ∈ TB := tb3 163 rfl rfl
theorem m3_164 : (Cond.methodLink RX4 146 yX4_study) ∈ TB := tb3 164 rfl rfl
theorem m3_166 : (Cond.instanceMethod yX4_study) ∈ TB := tb3 166 rfl rfl
theorem m3_167 : (Cond.code yX4_study cX4_study 9 (some .int)) ∈ TB := tb3 167 rfl rfl
theorem m3_168 : (Cond.methodLink RX4 97 yX4_makeSegments) ∈ TB := tb3 168 rfl rfl
theorem m3_170 : (Cond.instanceMethod yX4_makeSegments) ∈ TB := tb3 170 rfl rfl
theorem m3_171 : (Cond.code yX4_makeSegments cX4_makeSegments 6 none) ∈ TB := tb3 171 rfl rfl
theorem m3_172 : (Cond.methodLink RX4 93 yX4_segmentOf) ∈ TB := tb3 172 rfl rfl
theorem m3_174 : (Cond.instanceMethod yX4_segmentOf) ∈ TB := tb3 174 rfl rfl
theorem m3_175 : (Cond.code yX4_segmentOf cX4_segmentOf 5 none) ∈ TB := tb3 175 rfl rfl
theorem m3_176 : (Cond.methodLink RX4 101 yX4_touching) ∈ TB := tb3 176 rfl rfl
theorem m3_178 : (Cond.instanceMethod yX4_touching) ∈ TB := tb3 178 rfl rfl
theorem m3_179 : (Cond.code yX4_touching cX4_touching 4 (some .boolean)) ∈ TB := tb3 179 rfl rfl
theorem m3_180 : (Cond.methodLink RX4 150 yX4_noRing) ∈ TB := tb3 180 rfl rfl
theorem m3_182 : (Cond.instanceMethod yX4_noRing) ∈ TB := tb3 182 rfl rfl
theorem m3_183 : (Cond.code yX4_noRing cX4_noRing 2 (some .boolean)) ∈ TB := tb3 183 rfl rfl
theorem m3_184 : (Cond.methodLink RX4 130 yX4_inRing) ∈ TB := tb3 184 rfl rfl
theorem m3_186 : (Cond.instanceMethod yX4_inRing) ∈ TB := tb3 186 rfl rfl
theorem m3_187 : (Cond.code yX4_inRing cX4_inRing 3 (some .int)) ∈ TB := tb3 187 rfl rfl
theorem m3_188 : (Cond.methodLink RX4 104 yX4_has) ∈ TB := tb3 188 rfl rfl
theorem m3_189 : (Cond.static yX4_has) ∈ TB := tb3 189 rfl rfl
theorem m3_190 : (Cond.code yX4_has cX4_has 3 (some .boolean)) ∈ TB := tb3 190 rfl rfl
theorem m3_191 : (Cond.methodLink RX4 133 yX4_tellRing) ∈ TB := tb3 191 rfl rfl
theorem m3_193 : (Cond.instanceMethod yX4_tellRing) ∈ TB := tb3 193 rfl rfl
theorem m3_194 : (Cond.code yX4_tellRing cX4_tellRing 7 none) ∈ TB := tb3 194 rfl rfl
theorem m3_195 : (Cond.methodLink RX4 108 yX4_countSteps) ∈ TB := tb3 195 rfl rfl
theorem m3_197 : (Cond.instanceMethod yX4_countSteps) ∈ TB := tb3 197 rfl rfl
theorem m3_198 : (Cond.code yX4_countSteps cX4_countSteps 6 none) ∈ TB := tb3 198 rfl rfl
theorem m3_199 : (Cond.methodLink RX4 153 yX4_layNow) ∈ TB := tb3 199 rfl rfl
theorem m3_201 : (Cond.instanceMethod yX4_layNow) ∈ TB := tb3 201 rfl rfl
theorem m3_202 : (Cond.code yX4_layNow cX4_layNow 2 (some .int)) ∈ TB := tb3 202 rfl rfl
theorem m3_203 : (Cond.methodLink RX4 123 yX4_fill) ∈ TB := tb3 203 rfl rfl
theorem m3_205 : (Cond.instanceMethod yX4_fill) ∈ TB := tb3 205 rfl rfl
theorem m3_206 : (Cond.code yX4_fill cX4_fill 5 (some .int)) ∈ TB := tb3 206 rfl rfl
theorem m3_207 : (Cond.methodLink RX4 119 yX4_nextFor) ∈ TB := tb3 207 rfl rfl
theorem m3_209 : (Cond.instanceMethod yX4_nextFor) ∈ TB := tb3 209 rfl rfl
theorem m3_210 : (Cond.code yX4_nextFor cX4_nextFor 9 (some .int)) ∈ TB := tb3 210 rfl rfl
theorem m3_211 : (Cond.methodLink RX4 115 yX4_free) ∈ TB := tb3 211 rfl rfl
theorem m3_213 : (Cond.instanceMethod yX4_free) ∈ TB := tb3 213 rfl rfl
theorem m3_214 : (Cond.code yX4_free cX4_free 5 (some .boolean)) ∈ TB := tb3 214 rfl rfl
theorem m3_215 : (Cond.methodLink RL 68 yX4_layAny) ∈ TB := tb3 215 rfl rfl
theorem m3_216 : (Cond.instanceMethod yX4_layAny) ∈ TB := tb3 216 rfl rfl
theorem m3_217 : (Cond.selects RX4 yX4_layAny yX4_layAny) ∈ TB := tb3 217 rfl rfl
theorem m3_218 : (Cond.code yX4_layAny cX4_layAny 2 (some .int)) ∈ TB := tb3 218 rfl rfl
theorem m3_219 : (Cond.methodLink RL 72 yX4_ring) ∈ TB := tb3 219 rfl rfl
theorem m3_220 : (Cond.instanceMethod yX4_ring) ∈ TB := tb3 220 rfl rfl
theorem m3_221 : (Cond.selects RX4 yX4_ring yX4_ring) ∈ TB := tb3 221 rfl rfl
theorem m3_222 : (Cond.code yX4_ring cX4_ring 2 (some .int)) ∈ TB := tb3 222 rfl rfl
theorem m3_223 : (Cond.methodLink RL 76 yX4_segment) ∈ TB := tb3 223 rfl rfl
theorem m3_224 : (Cond.instanceMethod yX4_segment) ∈ TB := tb3 224 rfl rfl
theorem m3_225 : (Cond.selects RX4 yX4_segment yX4_segment) ∈ TB := tb3 225 rfl rfl
theorem m3_226 : (Cond.code yX4_segment cX4_segment 3 (some .int)) ∈ TB := tb3 226 rfl rfl
theorem m3_227 : (Cond.methodLink RL 79 yX4_level) ∈ TB := tb3 227 rfl rfl
theorem m3_228 : (Cond.instanceMethod yX4_level) ∈ TB := tb3 228 rfl rfl
theorem m3_229 : (Cond.selects RX4 yX4_level yX4_level) ∈ TB := tb3 229 rfl rfl
theorem m3_230 : (Cond.code yX4_level cX4_level 3 (some .int)) ∈ TB := tb3 230 rfl rfl
theorem m3_231 : (Cond.methodLink RX4 156 yX4_out) ∈ TB := tb3 231 rfl rfl
theorem m3_233 : (Cond.instanceMethod yX4_out) ∈ TB := tb3 233 rfl rfl
theorem m3_234 : (Cond.code yX4_out cX4_out 2 (some .boolean)) ∈ TB := tb3 234 rfl rfl
theorem m3_235 : (Cond.methodLink RX4 160 yX4_levelAt) ∈ TB := tb3 235 rfl rfl
theorem m3_237 : (Cond.instanceMethod yX4_levelAt) ∈ TB := tb3 237 rfl rfl
theorem m3_238 : (Cond.code yX4_levelAt cX4_levelAt 5 (some .int)) ∈ TB := tb3 238 rfl rfl
theorem m3_239 : (Cond.methodLink RL 82 yX4_upright) ∈ TB := tb3 239 rfl rfl
theorem m4_0 : (Cond.instanceMethod yX4_upright) ∈ TB := tb4 0 rfl rfl
theorem m4_1 : (Cond.selects RX4 yX4_upright yX4_upright) ∈ TB := tb4 1 rfl rfl
theorem m4_2 : (Cond.code yX4_upright cX4_upright 3 (some .int)) ∈ TB := tb4 2 rfl rfl
theorem m4_3 : (Cond.methodLink RX4 167 yX4_uprightAt) ∈ TB := tb4 3 rfl rfl
theorem m4_5 : (Cond.instanceMethod yX4_uprightAt) ∈ TB := tb4 5 rfl rfl
theorem m4_6 : (Cond.code yX4_uprightAt cX4_uprightAt 8 (some .int)) ∈ TB := tb4 6 rfl rfl
theorem m4_7 : (Cond.methodLink RX4 164 yX4_lies) ∈ TB := tb4 7 rfl rfl
theorem m4_9 : (Cond.instanceMethod yX4_lies) ∈ TB := tb4 9 rfl rfl
theorem m4_10 : (Cond.code yX4_lies cX4_lies 6 (some .boolean)) ∈ TB := tb4 10 rfl rfl
theorem m4_11 : (Cond.methodLink RL 85 yX4_via) ∈ TB := tb4 11 rfl rfl
theorem m4_12 : (Cond.instanceMethod yX4_via) ∈ TB := tb4 12 rfl rfl
theorem m4_13 : (Cond.selects RX4 yX4_via yX4_via) ∈ TB := tb4 13 rfl rfl
theorem m4_14 : (Cond.code yX4_via cX4_via 3 (some .boolean)) ∈ TB := tb4 14 rfl rfl
theorem m4_15 : (Cond.methodLink RX4 170 yX4_viaAt) ∈ TB := tb4 15 rfl rfl
theorem m4_17 : (Cond.instanceMethod yX4_viaAt) ∈ TB := tb4 17 rfl rfl
theorem m4_18 : (Cond.code yX4_viaAt cX4_viaAt 4 (some .boolean)) ∈ TB := tb4 18 rfl rfl
theorem m4_19 : (Cond.methodLink RL 89 yX4_density) ∈ TB := tb4 19 rfl rfl
theorem m4_20 : (Cond.instanceMethod yX4_density) ∈ TB := tb4 20 rfl rfl
theorem m4_21 : (Cond.selects RX4 yX4_density yX4_density) ∈ TB := tb4 21 rfl rfl
theorem m4_22 : (Cond.code yX4_density cX4_density 6 (some .int)) ∈ TB := tb4 22 rfl rfl
theorem m4_23 : (Cond.methodLink RL 93 yX4_pairs) ∈ TB := tb4 23 rfl rfl
theorem m4_24 : (Cond.instanceMethod yX4_pairs) ∈ TB := tb4 24 rfl rfl
theorem m4_25 : (Cond.selects RX4 yX4_pairs yX4_pairs) ∈ TB := tb4 25 rfl rfl
theorem m4_26 : (Cond.code yX4_pairs cX4_pairs 2 (some .int)) ∈ TB := tb4 26 rfl rfl
theorem m4_27 : (Cond.methodLink RL 96 yX4_net) ∈ TB := tb4 27 rfl rfl
theorem m4_28 : (Cond.instanceMethod yX4_net) ∈ TB := tb4 28 rfl rfl
theorem m4_29 : (Cond.selects RX4 yX4_net yX4_net) ∈ TB := tb4 29 rfl rfl
theorem m4_30 : (Cond.code yX4_net cX4_net 4 (some .int)) ∈ TB := tb4 30 rfl rfl
theorem m4_31 : (Cond.methodLink RL 100 yX4_count) ∈ TB := tb4 31 rfl rfl
theorem m4_32 : (Cond.instanceMethod yX4_count) ∈ TB := tb4 32 rfl rfl
theorem m4_33 : (Cond.selects RX4 yX4_count yX4_count) ∈ TB := tb4 33 rfl rfl
theorem m4_34 : (Cond.code yX4_count cX4_count 2 (some .int)) ∈ TB := tb4 34 rfl rfl
theorem m4_35 : (Cond.methodLink RX4 173 yX4_vias) ∈ TB := tb4 35 rfl rfl
theorem m4_37 : (Cond.instanceMethod yX4_vias) ∈ TB := tb4 37 rfl rfl
theorem m4_38 : (Cond.code yX4_vias cX4_vias 4 (some .int)) ∈ TB := tb4 38 rfl rfl
theorem m4_39 : (Cond.methodLink RL 105 yX4_used) ∈ TB := tb4 39 rfl rfl
theorem m4_40 : (Cond.instanceMethod yX4_used) ∈ TB := tb4 40 rfl rfl
theorem m4_41 : (Cond.selects RX4 yX4_used yX4_used) ∈ TB := tb4 41 rfl rfl
theorem m4_42 : (Cond.code yX4_used cX4_used 4 (some .float)) ∈ TB := tb4 42 rfl rfl
theorem ms1_0 : (Cond.selects RX2 yX2_toldAt yX2_toldAt) ∈ TB := tbs1 (q := (yX2_toldAt, 4)) 0 rfl
theorem ms1_1 : (Cond.selects RX0 yX0_longNetsAt yX0_longNetsAt) ∈ TB := tbs1 (q := (yX0_longNetsAt, 2)) 1 rfl
theorem ms1_2 : (Cond.selects RX0 yX0_isLong yX0_isLong) ∈ TB := tbs1 (q := (yX0_isLong, 2)) 2 rfl
theorem ms1_3 : (Cond.selects RX0 yX0_kindOf yX0_kindOf) ∈ TB := tbs1 (q := (yX0_kindOf, 2)) 3 rfl
theorem ms1_4 : (Cond.selects RX0 yX0_pinsOf yX0_pinsOf) ∈ TB := tbs1 (q := (yX0_pinsOf, 2)) 4 rfl
theorem ms1_5 : (Cond.selects RX0 yX0_firstColumn yX0_firstColumn) ∈ TB := tbs1 (q := (yX0_firstColumn, 2)) 5 rfl
theorem ms1_6 : (Cond.selects RX0 yX0_has yX0_has) ∈ TB := tbs1 (q := (yX0_has, 2)) 6 rfl
theorem ms1_7 : (Cond.selects RX0 yX0_lastColumn yX0_lastColumn) ∈ TB := tbs1 (q := (yX0_lastColumn, 2)) 7 rfl
theorem ms1_8 : (Cond.selects RX1 yX1_draw yX1_draw) ∈ TB := tbs1 (q := (yX1_draw, 9)) 8 rfl
theorem ms1_9 : (Cond.selects RX1 yX1_clear yX1_clear) ∈ TB := tbs1 (q := (yX1_clear, 9)) 9 rfl
theorem ms1_10 : (Cond.selects RX1 yX1_addPieces yX1_addPieces) ∈ TB := tbs1 (q := (yX1_addPieces, 9)) 10 rfl
theorem ms1_11 : (Cond.selects RX1 yX1_add yX1_add) ∈ TB := tbs1 (q := (yX1_add, 9)) 11 rfl
theorem ms1_12 : (Cond.selects RX1 yX1_addWhole yX1_addWhole) ∈ TB := tbs1 (q := (yX1_addWhole, 9)) 12 rfl
theorem ms1_13 : (Cond.selects RX1 yX1_findBelow yX1_findBelow) ∈ TB := tbs1 (q := (yX1_findBelow, 9)) 13 rfl
theorem ms1_14 : (Cond.selects RX1 yX1_touching yX1_touching) ∈ TB := tbs1 (q := (yX1_touching, 9)) 14 rfl
theorem ms1_15 : (Cond.selects RX1 yX1_touches yX1_touches) ∈ TB := tbs1 (q := (yX1_touches, 9)) 15 rfl
theorem ms2_0 : (Cond.selects RX1 yX1_addBelow yX1_addBelow) ∈ TB := tbs2 (q := (yX1_addBelow, 9)) 0 rfl
theorem ms2_1 : (Cond.selects RX1 yX1_countPairs yX1_countPairs) ∈ TB := tbs2 (q := (yX1_countPairs, 9)) 1 rfl
theorem ms2_2 : (Cond.selects RX1 yX1_countPoints yX1_countPoints) ∈ TB := tbs2 (q := (yX1_countPoints, 9)) 2 rfl
theorem ms2_3 : (Cond.selects RX1 yX1_netOn yX1_netOn) ∈ TB := tbs2 (q := (yX1_netOn, 9)) 3 rfl
theorem ms2_4 : (Cond.selects "java/lang/Throwable" ⟨"java/lang/Throwable", "fillInStackTrace", "(I)Ljava/lang/Throwable;"⟩ ⟨"java/lang/Throwable", "fillInStackTrace", "(I)Ljava/lang/Throwable;"⟩) ∈ TB := tbs2 (q := (⟨"java/lang/Throwable", "fillInStackTrace", "(I)Ljava/lang/Throwable;"⟩, 6)) 4 rfl
theorem ms2_5 : (Cond.selects RX0 yX0_put yX0_put) ∈ TB := tbs2 (q := (yX0_put, 2)) 5 rfl
theorem ms2_6 : (Cond.selects RX0 yX0_anySingle yX0_anySingle) ∈ TB := tbs2 (q := (yX0_anySingle, 2)) 6 rfl
theorem ms2_7 : (Cond.selects RX3 yX3_draftHasRing yX3_draftHasRing) ∈ TB := tbs2 (q := (yX3_draftHasRing, 7)) 7 rfl
theorem ms2_8 : (Cond.selects RX2 yX2_lowestInRing yX2_lowestInRing) ∈ TB := tbs2 (q := (yX2_lowestInRing, 4)) 8 rfl
theorem ms2_9 : (Cond.selects RX2 yX2_findReach yX2_findReach) ∈ TB := tbs2 (q := (yX2_findReach, 4)) 9 rfl
theorem ms2_10 : (Cond.selects RX3 yX3_tellRingOfDraft yX3_tellRingOfDraft) ∈ TB := tbs2 (q := (yX3_tellRingOfDraft, 7)) 10 rfl
theorem ms2_11 : (Cond.selects RX2 yX2_tell yX2_tell) ∈ TB := tbs2 (q := (yX2_tell, 4)) 11 rfl
theorem ms2_12 : (Cond.selects RX2 yX2_countStepsTo yX2_countStepsTo) ∈ TB := tbs2 (q := (yX2_countStepsTo, 4)) 12 rfl
theorem ms2_13 : (Cond.selects RX2 yX2_nearestBelow yX2_nearestBelow) ∈ TB := tbs2 (q := (yX2_nearestBelow, 4)) 13 rfl
theorem ms2_14 : (Cond.selects RX3 yX3_keepDraft yX3_keepDraft) ∈ TB := tbs2 (q := (yX3_keepDraft, 7)) 14 rfl
theorem ms2_15 : (Cond.selects RX1 yX1_fillTracks yX1_fillTracks) ∈ TB := tbs2 (q := (yX1_fillTracks, 9)) 15 rfl
theorem ms3_0 : (Cond.selects RX1 yX1_sortByLeft yX1_sortByLeft) ∈ TB := tbs3 (q := (yX1_sortByLeft, 9)) 0 rfl
theorem ms3_1 : (Cond.selects RX1 yX1_belowAnyOf yX1_belowAnyOf) ∈ TB := tbs3 (q := (yX1_belowAnyOf, 9)) 1 rfl
theorem ms3_2 : (Cond.selects RX1 yX1_fillTrack yX1_fillTrack) ∈ TB := tbs3 (q := (yX1_fillTrack, 9)) 2 rfl
theorem ms3_3 : (Cond.selects RX1 yX1_fitsBehind yX1_fitsBehind) ∈ TB := tbs3 (q := (yX1_fitsBehind, 9)) 3 rfl
theorem ms3_4 : (Cond.selects RX3 yX3_isTrack yX3_isTrack) ∈ TB := tbs3 (q := (yX3_isTrack, 7)) 4 rfl
theorem ms3_5 : (Cond.selects RX3 yX3_uprightNet yX3_uprightNet) ∈ TB := tbs3 (q := (yX3_uprightNet, 7)) 5 rfl
theorem ms3_6 : (Cond.selects RX1 yX1_greatestTrack yX1_greatestTrack) ∈ TB := tbs3 (q := (yX1_greatestTrack, 9)) 6 rfl
theorem ms3_7 : (Cond.selects RX1 yX1_leastTrack yX1_leastTrack) ∈ TB := tbs3 (q := (yX1_leastTrack, 9)) 7 rfl
theorem ms3_8 : (Cond.selects RX3 yX3_isVia yX3_isVia) ∈ TB := tbs3 (q := (yX3_isVia, 7)) 8 rfl
theorem ms3_9 : (Cond.selects RX1 yX1_touchesOn yX1_touchesOn) ∈ TB := tbs3 (q := (yX1_touchesOn, 9)) 9 rfl
theorem ms3_10 : (Cond.selects RX3 yX3_countVias yX3_countVias) ∈ TB := tbs3 (q := (yX3_countVias, 7)) 10 rfl
theorem ms3_11 : (Cond.selects RX4 yX4_anySingle yX4_anySingle) ∈ TB := tbs3 (q := (yX4_anySingle, 23)) 11 rfl
theorem ms3_12 : (Cond.selects RX4 yX4_sort yX4_sort) ∈ TB := tbs3 (q := (yX4_sort, 23)) 12 rfl
theorem ms3_13 : (Cond.selects RX4 yX4_pinsOf yX4_pinsOf) ∈ TB := tbs3 (q := (yX4_pinsOf, 23)) 13 rfl
theorem ms3_14 : (Cond.selects RX4 yX4_columns yX4_columns) ∈ TB := tbs3 (q := (yX4_columns, 23)) 14 rfl
theorem ms3_15 : (Cond.selects RX4 yX4_fail yX4_fail) ∈ TB := tbs3 (q := (yX4_fail, 23)) 15 rfl
theorem ms4_0 : (Cond.selects RX4 yX4_study yX4_study) ∈ TB := tbs4 (q := (yX4_study, 23)) 0 rfl
theorem ms4_1 : (Cond.selects RX4 yX4_makeSegments yX4_makeSegments) ∈ TB := tbs4 (q := (yX4_makeSegments, 23)) 1 rfl
theorem ms4_2 : (Cond.selects RX4 yX4_segmentOf yX4_segmentOf) ∈ TB := tbs4 (q := (yX4_segmentOf, 23)) 2 rfl
theorem ms4_3 : (Cond.selects RX4 yX4_touching yX4_touching) ∈ TB := tbs4 (q := (yX4_touching, 23)) 3 rfl
theorem ms4_4 : (Cond.selects RX4 yX4_noRing yX4_noRing) ∈ TB := tbs4 (q := (yX4_noRing, 23)) 4 rfl
theorem ms4_5 : (Cond.selects RX4 yX4_inRing yX4_inRing) ∈ TB := tbs4 (q := (yX4_inRing, 23)) 5 rfl
theorem ms4_6 : (Cond.selects RX4 yX4_tellRing yX4_tellRing) ∈ TB := tbs4 (q := (yX4_tellRing, 23)) 6 rfl
theorem ms4_7 : (Cond.selects RX4 yX4_countSteps yX4_countSteps) ∈ TB := tbs4 (q := (yX4_countSteps, 23)) 7 rfl
theorem ms4_8 : (Cond.selects RX4 yX4_layNow yX4_layNow) ∈ TB := tbs4 (q := (yX4_layNow, 23)) 8 rfl
theorem ms4_9 : (Cond.selects RX4 yX4_fill yX4_fill) ∈ TB := tbs4 (q := (yX4_fill, 23)) 9 rfl
theorem ms4_10 : (Cond.selects RX4 yX4_nextFor yX4_nextFor) ∈ TB := tbs4 (q := (yX4_nextFor, 23)) 10 rfl
theorem ms4_11 : (Cond.selects RX4 yX4_free yX4_free) ∈ TB := tbs4 (q := (yX4_free, 23)) 11 rfl
theorem ms4_12 : (Cond.selects RX4 yX4_out yX4_out) ∈ TB := tbs4 (q := (yX4_out, 23)) 12 rfl
theorem ms4_13 : (Cond.selects RX4 yX4_levelAt yX4_levelAt) ∈ TB := tbs4 (q := (yX4_levelAt, 23)) 13 rfl
theorem ms4_14 : (Cond.selects RX4 yX4_uprightAt yX4_uprightAt) ∈ TB := tbs4 (q := (yX4_uprightAt, 23)) 14 rfl
theorem ms4_15 : (Cond.selects RX4 yX4_lies yX4_lies) ∈ TB := tbs4 (q := (yX4_lies, 23)) 15 rfl
theorem ms5_0 : (Cond.selects RX4 yX4_viaAt yX4_viaAt) ∈ TB := tbs5 (q := (yX4_viaAt, 23)) 0 rfl
theorem ms5_1 : (Cond.selects RX4 yX4_vias yX4_vias) ∈ TB := tbs5 (q := (yX4_vias, 23)) 1 rfl
def NWL : List Cond := [.methodLinkNest RX3 11 yX0_init RX3, .fieldLinkNest RX1 82 "ChannelRouter$Pins" "top" "[I" RX3, .fieldLinkNest RX3 186 "ChannelRouter$Pins" "top" "[I" RX3, .fieldLinkNest RX1 85 "ChannelRouter$Pins" "bottom" "[I" RX3, .fieldLinkNest RX3 189 "ChannelRouter$Pins" "bottom" "[I" RX3, .methodLinkNest RX3 18 yX2_init RX3, .methodLinkNest RX3 25 yX1_init RX3, .fieldLinkNest RX3 105 "ChannelRouter$Plan" "netOf" "[I" RX3, .fieldLinkNest RX3 109 "ChannelRouter$Plan" "left" "[I" RX3, .fieldLinkNest RX3 112 "ChannelRouter$Plan" "right" "[I" RX3, .fieldLinkNest RX3 115 "ChannelRouter$Plan" "trackOf" "[I" RX3, .fieldLinkNest RX2 39 "ChannelRouter$Plan" "below" "[J" RX3, .fieldLinkNest RX2 30 "ChannelRouter$Plan" "size" "I" RX3, .fieldLinkNest RX3 100 "ChannelRouter$Plan" "size" "I" RX3, .fieldLinkNest RX3 91 "ChannelRouter$Plan" "tracks" "I" RX3, .methodLinkNest RX3 96 yX2_toldAt RX3, .methodLinkNest RX3 138 yX0_longNetsAt RX3, .methodLinkNest RX3 146 yX1_draw RX3, .methodLinkNest RX1 44 yX0_isLong RX3, .methodLinkNest RX1 61 yX0_has RX3, .methodLinkNest RX1 65 yX0_firstColumn RX3, .methodLinkNest RX1 69 yX0_lastColumn RX3, .methodLinkNest RX3 150 yX1_countPairs RX3, .methodLinkNest RX3 172 yX1_countPoints RX3, .methodLinkNest RX3 63 yX1_clear RX3, .methodLinkNest RX3 66 yX0_put RX3, .methodLinkNest RX3 70 yX0_anySingle RX3, .methodLinkNest RX3 175 yX2_lowestInRing RX3, .methodLinkNest RX2 35 yX1_isIn RX3, .methodLinkNest RX3 179 yX2_tell RX3, .methodLinkNest RX3 183 yX1_fillTracks RX3, .methodLinkNest RX3 125 yX1_netOn RX3, .methodLinkNest RX3 192 yX1_greatestTrack RX3, .methodLinkNest RX3 195 yX1_leastTrack RX3, .methodLinkNest RX3 198 yX1_touchesOn RX3, .methodLinkNest RX3 154 yX0_isLong RX3, .methodLinkNest RX3 157 yX0_firstColumn RX3, .methodLinkNest RX3 160 yX0_lastColumn RX3, .methodLinkNest RX3 163 yX0_pinsOf RX3, .methodLinkNest RX3 166 yX0_kindOf RX3]
theorem nw_0 : (Cond.methodLinkNest RX3 11 yX0_init RX3) ∈ NWL := List.mem_of_getElem? (i := 0) rfl
theorem nw_1 : (Cond.fieldLinkNest RX1 82 "ChannelRouter$Pins" "top" "[I" RX3) ∈ NWL := List.mem_of_getElem? (i := 1) rfl
theorem nw_2 : (Cond.fieldLinkNest RX3 186 "ChannelRouter$Pins" "top" "[I" RX3) ∈ NWL := List.mem_of_getElem? (i := 2) rfl
theorem nw_3 : (Cond.fieldLinkNest RX1 85 "ChannelRouter$Pins" "bottom" "[I" RX3) ∈ NWL := List.mem_of_getElem? (i := 3) rfl
theorem nw_4 : (Cond.fieldLinkNest RX3 189 "ChannelRouter$Pins" "bottom" "[I" RX3) ∈ NWL := List.mem_of_getElem? (i := 4) rfl
theorem nw_5 : (Cond.methodLinkNest RX3 18 yX2_init RX3) ∈ NWL := List.mem_of_getElem? (i := 5) rfl
theorem nw_6 : (Cond.methodLinkNest RX3 25 yX1_init RX3) ∈ NWL := List.mem_of_getElem? (i := 6) rfl
theorem nw_7 : (Cond.fieldLinkNest RX3 105 "ChannelRouter$Plan" "netOf" "[I" RX3) ∈ NWL := List.mem_of_getElem? (i := 7) rfl
theorem nw_8 : (Cond.fieldLinkNest RX3 109 "ChannelRouter$Plan" "left" "[I" RX3) ∈ NWL := List.mem_of_getElem? (i := 8) rfl
theorem nw_9 : (Cond.fieldLinkNest RX3 112 "ChannelRouter$Plan" "right" "[I" RX3) ∈ NWL := List.mem_of_getElem? (i := 9) rfl
theorem nw_10 : (Cond.fieldLinkNest RX3 115 "ChannelRouter$Plan" "trackOf" "[I" RX3) ∈ NWL := List.mem_of_getElem? (i := 10) rfl
theorem nw_11 : (Cond.fieldLinkNest RX2 39 "ChannelRouter$Plan" "below" "[J" RX3) ∈ NWL := List.mem_of_getElem? (i := 11) rfl
theorem nw_12 : (Cond.fieldLinkNest RX2 30 "ChannelRouter$Plan" "size" "I" RX3) ∈ NWL := List.mem_of_getElem? (i := 12) rfl
theorem nw_13 : (Cond.fieldLinkNest RX3 100 "ChannelRouter$Plan" "size" "I" RX3) ∈ NWL := List.mem_of_getElem? (i := 13) rfl
theorem nw_14 : (Cond.fieldLinkNest RX3 91 "ChannelRouter$Plan" "tracks" "I" RX3) ∈ NWL := List.mem_of_getElem? (i := 14) rfl
theorem nw_15 : (Cond.methodLinkNest RX3 96 yX2_toldAt RX3) ∈ NWL := List.mem_of_getElem? (i := 15) rfl
theorem nw_16 : (Cond.methodLinkNest RX3 138 yX0_longNetsAt RX3) ∈ NWL := List.mem_of_getElem? (i := 16) rfl
theorem nw_17 : (Cond.methodLinkNest RX3 146 yX1_draw RX3) ∈ NWL := List.mem_of_getElem? (i := 17) rfl
theorem nw_18 : (Cond.methodLinkNest RX1 44 yX0_isLong RX3) ∈ NWL := List.mem_of_getElem? (i := 18) rfl
theorem nw_19 : (Cond.methodLinkNest RX1 61 yX0_has RX3) ∈ NWL := List.mem_of_getElem? (i := 19) rfl
theorem nw_20 : (Cond.methodLinkNest RX1 65 yX0_firstColumn RX3) ∈ NWL := List.mem_of_getElem? (i := 20) rfl
theorem nw_21 : (Cond.methodLinkNest RX1 69 yX0_lastColumn RX3) ∈ NWL := List.mem_of_getElem? (i := 21) rfl
theorem nw_22 : (Cond.methodLinkNest RX3 150 yX1_countPairs RX3) ∈ NWL := List.mem_of_getElem? (i := 22) rfl
theorem nw_23 : (Cond.methodLinkNest RX3 172 yX1_countPoints RX3) ∈ NWL := List.mem_of_getElem? (i := 23) rfl
theorem nw_24 : (Cond.methodLinkNest RX3 63 yX1_clear RX3) ∈ NWL := List.mem_of_getElem? (i := 24) rfl
theorem nw_25 : (Cond.methodLinkNest RX3 66 yX0_put RX3) ∈ NWL := List.mem_of_getElem? (i := 25) rfl
theorem nw_26 : (Cond.methodLinkNest RX3 70 yX0_anySingle RX3) ∈ NWL := List.mem_of_getElem? (i := 26) rfl
theorem nw_27 : (Cond.methodLinkNest RX3 175 yX2_lowestInRing RX3) ∈ NWL := List.mem_of_getElem? (i := 27) rfl
theorem nw_28 : (Cond.methodLinkNest RX2 35 yX1_isIn RX3) ∈ NWL := List.mem_of_getElem? (i := 28) rfl
theorem nw_29 : (Cond.methodLinkNest RX3 179 yX2_tell RX3) ∈ NWL := List.mem_of_getElem? (i := 29) rfl
theorem nw_30 : (Cond.methodLinkNest RX3 183 yX1_fillTracks RX3) ∈ NWL := List.mem_of_getElem? (i := 30) rfl
theorem nw_31 : (Cond.methodLinkNest RX3 125 yX1_netOn RX3) ∈ NWL := List.mem_of_getElem? (i := 31) rfl
theorem nw_32 : (Cond.methodLinkNest RX3 192 yX1_greatestTrack RX3) ∈ NWL := List.mem_of_getElem? (i := 32) rfl
theorem nw_33 : (Cond.methodLinkNest RX3 195 yX1_leastTrack RX3) ∈ NWL := List.mem_of_getElem? (i := 33) rfl
theorem nw_34 : (Cond.methodLinkNest RX3 198 yX1_touchesOn RX3) ∈ NWL := List.mem_of_getElem? (i := 34) rfl
theorem nw_35 : (Cond.methodLinkNest RX3 154 yX0_isLong RX3) ∈ NWL := List.mem_of_getElem? (i := 35) rfl
theorem nw_36 : (Cond.methodLinkNest RX3 157 yX0_firstColumn RX3) ∈ NWL := List.mem_of_getElem? (i := 36) rfl
theorem nw_37 : (Cond.methodLinkNest RX3 160 yX0_lastColumn RX3) ∈ NWL := List.mem_of_getElem? (i := 37) rfl
theorem nw_38 : (Cond.methodLinkNest RX3 163 yX0_pinsOf RX3) ∈ NWL := List.mem_of_getElem? (i := 38) rfl
theorem nw_39 : (Cond.methodLinkNest RX3 166 yX0_kindOf RX3) ∈ NWL := List.mem_of_getElem? (i := 39) rfl
theorem nwl_tbl : ∀ w ∈ NWL, w ∈ lw_tbl := by
  intro w hw
  have h : ∀ v ∈ NWL, v ∈ tables_1 := by decide +kernel
  exact List.mem_append_right _ (h w hw)
theorem nwl_ot : ∀ w ∈ NWL, w.onTables = true := by decide +kernel
theorem iuX0 : ∀ w ∈ u_ws RX0 TX0 2, w ∈ TB := by decide +kernel
theorem iuX1 : ∀ w ∈ u_ws RX1 TX1 9, w ∈ TB := by decide +kernel
theorem iuX2 : ∀ w ∈ u_ws RX2 TX2 4, w ∈ TB := by decide +kernel
theorem iuX3 : ∀ w ∈ u_ws RX3 TX3 7, w ∈ TB := by decide +kernel
theorem iuX4 : ∀ w ∈ u_ws RX4 TX4 23, w ∈ TB := by decide +kernel
end
section
/-- what the worlds' cells stand on: the classes, the two array classes, the nest links -/
def KK (D : va_G) (cI cJ : ClassId) (U : State) : Prop := va_K D vwCl [(cI, .int), (cJ, .long)] U ∧ ∀ w ∈ NWL, va_Nw w U
theorem KK.same {D : va_G} {cI cJ : ClassId} {u U : State} (hv : u.vm = U.vm) (h : KK D cI cJ u) : KK D cI cJ U := ⟨va_K.moved (by rw [hv]; exact Vm.Alike.refl U.vm) h.1, fun w hw => va_Nw.same (nwl_ot w hw) hv (h.2 w hw)⟩
theorem nw_warm {s U : State} (hW : s.WarmedH U.vm) : ∀ w ∈ NWL, va_Nw w s → va_Nw w U := by
  intro w hw h
  have hk : ∀ v ∈ NWL, (match v with | .fieldLinkNest .. => true | .methodLinkNest .. => true | _ => false) = true := by decide +kernel
  have h1 := hk w hw
  match w, h1, h with
  | .fieldLinkNest .., _, h => exact va_Nw.warmF hW h
  | .methodLinkNest .., _, h => exact va_Nw.warmM hW h
theorem KK.warm {D : va_G} {cI cJ : ClassId} {s U : State} (hW : s.WarmedH U.vm) (h : KK D cI cJ s) : KK D cI cJ U := ⟨va_K.moved hW.alike h.1, fun w hw => nw_warm hW w hw (h.2 w hw)⟩
/-- a method's standing facts -/
def Cx (p : Program) (s : State) (m : MethodId) (args : Array Value) (c : Code) (cc : ByteArray) (nL : Nat) (own : String) (D : va_G) (A : Nat → Prop) (cI cJ : ClassId) : Prop :=
  p.tables.exec = Jvm.exec ∧ c.code = cc ∧ c.maxLocals = nL ∧ s.vm.findClass own = some m.cls ∧ (∀ w ∈ TB, w.before args s = true) ∧ KK D cI cJ s ∧ ∀ q, s.heap.size ≤ q → A q
/-- the machine at pc, with these locals, this stack, this world: whatever the heap that holds it -/
def V (p : Program) (l : Launch) (e : Env) (R : Room) (s : State) (m : MethodId) (args : Array Value) (below : List Frame) (meth : Method) (c : Code) (nL : Nat) (D : va_G) (A : Nat → Prop) (cells slots : Nat) (Q : State → Prop) (pc : Nat) (lv : List (Nat × Value)) (st : List Value) (ws : va_W) : Prop :=
  ∀ (H : Heap) (locs : List Loc) (ls : Array Slot), lv_has ls nL lv → va_P D vwCl ws H → va_D A ws → va_S A s.heap H locs → W p l e R s m args below meth c H locs cells slots Q (F0 m pc ls st)
/-- an index looked at -/
def bnd {α : Type} (i : Int32) (n : Nat) (x : Option α) : Option α := if i < 0 ∨ n ≤ i.toNatClampNeg then none else x
theorem bnd_el {α : Type} {i : Int32} {n : Nat} {x : Option α} {o : α} (h : bnd i n x = some o) : vp_in i n ∧ x = some o := by
  unfold bnd at h
  by_cases c : i < 0 ∨ n ≤ i.toNatClampNeg
  · rw [if_pos c] at h; cases h
  · rw [if_neg c] at h; exact ⟨c, h⟩
theorem bind_el {α β : Type} {x : Option α} {f : α → Option β} {o : β} (h : x.bind f = some o) : ∃ r, x = some r ∧ f r = some o := by
  cases x with
  | none => cases h
  | some r => exact ⟨r, rfl, h⟩
theorem ite_el {α : Type} {c : Prop} [Decidable c] {x y : Option α} {o : α} {B : Prop} (h : (if c then x else y) = some o) (kt : c → x = some o → B) (kf : ¬ c → y = some o → B) : B := by
  by_cases q : c
  · rw [if_pos q] at h; exact kt q h
  · rw [if_neg q] at h; exact kf q h
/-- a loop: its body goes on, or leaves -/
def lp {σ ρ : Type} (b : σ → Option (σ ⊕ ρ)) : Nat → σ → Option ρ
  | 0, _ => none
  | n + 1, s => match b s with
    | none => none
    | some (.inl s') => lp b n s'
    | some (.inr r) => some r
theorem lp_ok {σ ρ : Type} {b : σ → Option (σ ⊕ ρ)} {Pσ : σ → Prop} {Pρ : ρ → Prop} (h : ∀ s o, b s = some o → (∀ s', o = .inl s' → Pσ s') → (∀ r, o = .inr r → Pρ r) → Pσ s) : ∀ n s o, lp b n s = some o → Pρ o → Pσ s := by
  intro n
  induction n with
  | zero => intro s o h1; cases h1
  | succ n ih =>
    intro s o h1 h2
    unfold lp at h1
    cases hb : b s with
    | none => rw [hb] at h1; cases h1
    | some x =>
      rw [hb] at h1
      cases x with
      | inl s' => exact h s _ hb (fun s2 e => by cases e; exact ih s' o h1 h2) (fun r e => by cases e)
      | inr r => cases h1; exact h s _ hb (fun s2 e => by cases e) (fun r2 e => by cases e; exact h2)
theorem bal0 : ∀ w ∈ TB, w ∈ TB := fun _ h => h
section
variable {p : Program} {l : Launch} {e : Env} {R : Room} {s : State} {m : MethodId} {args : Array Value} {below : List Frame} {meth : Method} {c : Code} {cc : ByteArray} {nL : Nat} {own : String} {D : va_G} {A : Nat → Prop} {cI cJ : ClassId} {cells slots : Nat} {Q : State → Prop} {pc : Nat} {lv : List (Nat × Value)} {st : List Value} {ws : va_W}
theorem v_perm {lv' : List (Nat × Value)} (ks : List Nat) (hk : lv_pick lv ks = lv') (k : V p l e R s m args below meth c nL D A cells slots Q pc lv' st ws) : V p l e R s m args below meth c nL D A cells slots Q pc lv st ws := fun H locs ls hl hP hD hS => k H locs ls (lv_sub hl ks hk) hP hD hS
theorem v_ws {ws' : va_W} (hw : ws = ws') (k : V p l e R s m args below meth c nL D A cells slots Q pc lv st ws') : V p l e R s m args below meth c nL D A cells slots Q pc lv st ws := hw ▸ k
theorem v_iconst (C : Cx p s m args c cc nL own D A cI cJ) {n : Int} {v : Int32} (hd : decode cc pc = .ok (.iconst n, 1)) (hv : Int32.ofInt n = v) (k : V p l e R s m args below meth c nL D A cells slots Q (pc + 1) lv (.int v :: st) ws) : V p l e R s m args below meth c nL D A cells slots Q pc lv st ws := fun H locs ls hl hP hD hS => lv_iconst C.1 C.2.1 hd hv (k H locs ls hl hP hD hS)
theorem v_bipush (C : Cx p s m args c cc nL own D A cI cJ) {n : Int} {v : Int32} (hd : decode cc pc = .ok (.bipush n, 2)) (hv : (Int8.ofInt n).toInt32 = v) (k : V p l e R s m args below meth c nL D A cells slots Q (pc + 2) lv (.int v :: st) ws) : V p l e R s m args below meth c nL D A cells slots Q pc lv st ws := fun H locs ls hl hP hD hS => lv_bipush C.1 C.2.1 hd hv (k H locs ls hl hP hD hS)
theorem v_sipush (C : Cx p s m args c cc nL own D A cI cJ) {n : Int} {v : Int32} (hd : decode cc pc = .ok (.sipush n, 3)) (hv : (Int16.ofInt n).toInt32 = v) (k : V p l e R s m args below meth c nL D A cells slots Q (pc + 3) lv (.int v :: st) ws) : V p l e R s m args below meth c nL D A cells slots Q pc lv st ws := fun H locs ls hl hP hD hS => lv_sipush C.1 C.2.1 hd hv (k H locs ls hl hP hD hS)
theorem v_lconst (C : Cx p s m args c cc nL own D A cI cJ) {n : Fin 2} {v : Int64} (hd : decode cc pc = .ok (.lconst n, 1)) (hv : Int64.ofNat (n : Nat) = v) (k : V p l e R s m args below meth c nL D A cells slots Q (pc + 1) lv (.long v :: st) ws) : V p l e R s m args below meth c nL D A cells slots Q pc lv st ws := fun H locs ls hl hP hD hS => lv_lconst C.1 C.2.1 hd hv (k H locs ls hl hP hD hS)
theorem v_ldc2 (C : Cx p s m args c cc nL own D A cI cJ) {index : Nat} {v : Int64} (hw : Cond.constantLong own index v ∈ TB) (hd : decode cc pc = .ok (.ldc2_w index, 3)) (k : V p l e R s m args below meth c nL D A cells slots Q (pc + 3) lv (.long v :: st) ws) : V p l e R s m args below meth c nL D A cells slots Q pc lv st ws := fun H locs ls hl hP hD hS => lv_ldc2 C.1 C.2.1 C.2.2.2.1 (C.2.2.2.2.1 _ hw) hd (k H locs ls hl hP hD hS)
theorem v_fconst0 (C : Cx p s m args c cc nL own D A cI cJ)  (hd : decode cc pc = .ok (.fconst 0, 1)) (k : V p l e R s m args below meth c nL D A cells slots Q (pc + 1) lv (.float FP.fconst0 :: st) ws) : V p l e R s m args below meth c nL D A cells slots Q pc lv st ws := fun H locs ls hl hP hD hS => lv_fconst0 C.1 C.2.1 hd (k H locs ls hl hP hD hS)
theorem v_iload_n (C : Cx p s m args c cc nL own D A cI cJ) {k4 : Fin 4} {i : Nat} {x : Int32} (j : Nat) (hd : decode cc pc = .ok (.iload_n k4, 1)) (hi : (k4 : Nat) = i) (hj : lv[j]? = some (i, .int x)) (k : V p l e R s m args below meth c nL D A cells slots Q (pc + 1) lv (.int x :: st) ws) : V p l e R s m args below meth c nL D A cells slots Q pc lv st ws := fun H locs ls hl hP hD hS => lv_iload_n C.1 C.2.1 hd hi (lv_at hl j hj) (k H locs ls hl hP hD hS)
theorem v_iload (C : Cx p s m args c cc nL own D A cI cJ) {i : Nat} {x : Int32} (j : Nat) (hd : decode cc pc = .ok (.iload i, 2)) (hj : lv[j]? = some (i, .int x)) (k : V p l e R s m args below meth c nL D A cells slots Q (pc + 2) lv (.int x :: st) ws) : V p l e R s m args below meth c nL D A cells slots Q pc lv st ws := fun H locs ls hl hP hD hS => lv_iload C.1 C.2.1 hd (lv_at hl j hj) (k H locs ls hl hP hD hS)
theorem v_istore_n (C : Cx p s m args c cc nL own D A cI cJ) {k4 : Fin 4} {i : Nat} {x : Int32} (lv' : List (Nat × Value)) (hd : decode cc pc = .ok (.istore_n k4, 1)) (hi : (k4 : Nat) = i) (hn : i < nL) (hw : (i, Value.int x) :: lv.filter (fun q => !(q.1 == i) && !(q.1 + 1 == i && q.2.category == 2)) = lv') (k : V p l e R s m args below meth c nL D A cells slots Q (pc + 1) lv' st ws) : V p l e R s m args below meth c nL D A cells slots Q pc lv (.int x :: st) ws := fun H locs ls hl hP hD hS => lv_istore_n C.1 C.2.1 hd hi hl hn hw (fun ls hl => k H locs ls hl hP hD hS)
theorem v_istore (C : Cx p s m args c cc nL own D A cI cJ) {i : Nat} {x : Int32} (lv' : List (Nat × Value)) (hd : decode cc pc = .ok (.istore i, 2)) (hn : i < nL) (hw : (i, Value.int x) :: lv.filter (fun q => !(q.1 == i) && !(q.1 + 1 == i && q.2.category == 2)) = lv') (k : V p l e R s m args below meth c nL D A cells slots Q (pc + 2) lv' st ws) : V p l e R s m args below meth c nL D A cells slots Q pc lv (.int x :: st) ws := fun H locs ls hl hP hD hS => lv_istore C.1 C.2.1 hd hl hn hw (fun ls hl => k H locs ls hl hP hD hS)
theorem v_lload_n (C : Cx p s m args c cc nL own D A cI cJ) {k4 : Fin 4} {i : Nat} {x : Int64} (j : Nat) (hd : decode cc pc = .ok (.lload_n k4, 1)) (hi : (k4 : Nat) = i) (hj : lv[j]? = some (i, .long x)) (k : V p l e R s m args below meth c nL D A cells slots Q (pc + 1) lv (.long x :: st) ws) : V p l e R s m args below meth c nL D A cells slots Q pc lv st ws := fun H locs ls hl hP hD hS => lv_lload_n C.1 C.2.1 hd hi (lv_at hl j hj) (k H locs ls hl hP hD hS)
theorem v_lload (C : Cx p s m args c cc nL own D A cI cJ) {i : Nat} {x : Int64} (j : Nat) (hd : decode cc pc = .ok (.lload i, 2)) (hj : lv[j]? = some (i, .long x)) (k : V p l e R s m args below meth c nL D A cells slots Q (pc + 2) lv (.long x :: st) ws) : V p l e R s m args below meth c nL D A cells slots Q pc lv st ws := fun H locs ls hl hP hD hS => lv_lload C.1 C.2.1 hd (lv_at hl j hj) (k H locs ls hl hP hD hS)
theorem v_lstore_n (C : Cx p s m args c cc nL own D A cI cJ) {k4 : Fin 4} {i : Nat} {x : Int64} (lv' : List (Nat × Value)) (hd : decode cc pc = .ok (.lstore_n k4, 1)) (hi : (k4 : Nat) = i) (hn : i + 1 < nL) (hw : (i, Value.long x) :: lv.filter (fun q => !(q.1 == i) && (!(q.1 == i + 1) && !(q.1 + 1 == i && q.2.category == 2))) = lv') (k : V p l e R s m args below meth c nL D A cells slots Q (pc + 1) lv' st ws) : V p l e R s m args below meth c nL D A cells slots Q pc lv (.long x :: st) ws := fun H locs ls hl hP hD hS => lv_lstore_n C.1 C.2.1 hd hi hl hn hw (fun ls hl => k H locs ls hl hP hD hS)
theorem v_lstore (C : Cx p s m args c cc nL own D A cI cJ) {i : Nat} {x : Int64} (lv' : List (Nat × Value)) (hd : decode cc pc = .ok (.lstore i, 2)) (hn : i + 1 < nL) (hw : (i, Value.long x) :: lv.filter (fun q => !(q.1 == i) && (!(q.1 == i + 1) && !(q.1 + 1 == i && q.2.category == 2))) = lv') (k : V p l e R s m args below meth c nL D A cells slots Q (pc + 2) lv' st ws) : V p l e R s m args below meth c nL D A cells slots Q pc lv (.long x :: st) ws := fun H locs ls hl hP hD hS => lv_lstore C.1 C.2.1 hd hl hn hw (fun ls hl => k H locs ls hl hP hD hS)
theorem v_aload_n (C : Cx p s m args c cc nL own D A cI cJ) {k4 : Fin 4} {i : Nat} {x : Nat} (j : Nat) (hd : decode cc pc = .ok (.aload_n k4, 1)) (hi : (k4 : Nat) = i) (hj : lv[j]? = some (i, .ref x)) (k : V p l e R s m args below meth c nL D A cells slots Q (pc + 1) lv (.ref x :: st) ws) : V p l e R s m args below meth c nL D A cells slots Q pc lv st ws := fun H locs ls hl hP hD hS => lv_aload_n C.1 C.2.1 hd hi (lv_at hl j hj) (k H locs ls hl hP hD hS)
theorem v_aload (C : Cx p s m args c cc nL own D A cI cJ) {i : Nat} {x : Nat} (j : Nat) (hd : decode cc pc = .ok (.aload i, 2)) (hj : lv[j]? = some (i, .ref x)) (k : V p l e R s m args below meth c nL D A cells slots Q (pc + 2) lv (.ref x :: st) ws) : V p l e R s m args below meth c nL D A cells slots Q pc lv st ws := fun H locs ls hl hP hD hS => lv_aload C.1 C.2.1 hd (lv_at hl j hj) (k H locs ls hl hP hD hS)
theorem v_astore_n (C : Cx p s m args c cc nL own D A cI cJ) {k4 : Fin 4} {i : Nat} {x : Nat} (lv' : List (Nat × Value)) (hd : decode cc pc = .ok (.astore_n k4, 1)) (hi : (k4 : Nat) = i) (hn : i < nL) (hw : (i, Value.ref x) :: lv.filter (fun q => !(q.1 == i) && !(q.1 + 1 == i && q.2.category == 2)) = lv') (k : V p l e R s m args below meth c nL D A cells slots Q (pc + 1) lv' st ws) : V p l e R s m args below meth c nL D A cells slots Q pc lv (.ref x :: st) ws := fun H locs ls hl hP hD hS => lv_astore_n C.1 C.2.1 hd hi hl hn hw (fun ls hl => k H locs ls hl hP hD hS)
theorem v_astore (C : Cx p s m args c cc nL own D A cI cJ) {i : Nat} {x : Nat} (lv' : List (Nat × Value)) (hd : decode cc pc = .ok (.astore i, 2)) (hn : i < nL) (hw : (i, Value.ref x) :: lv.filter (fun q => !(q.1 == i) && !(q.1 + 1 == i && q.2.category == 2)) = lv') (k : V p l e R s m args below meth c nL D A cells slots Q (pc + 2) lv' st ws) : V p l e R s m args below meth c nL D A cells slots Q pc lv (.ref x :: st) ws := fun H locs ls hl hP hD hS => lv_astore C.1 C.2.1 hd hl hn hw (fun ls hl => k H locs ls hl hP hD hS)
theorem v_fload_n (C : Cx p s m args c cc nL own D A cI cJ) {k4 : Fin 4} {i : Nat} {x : UInt32} (j : Nat) (hd : decode cc pc = .ok (.fload_n k4, 1)) (hi : (k4 : Nat) = i) (hj : lv[j]? = some (i, .float x)) (k : V p l e R s m args below meth c nL D A cells slots Q (pc + 1) lv (.float x :: st) ws) : V p l e R s m args below meth c nL D A cells slots Q pc lv st ws := fun H locs ls hl hP hD hS => lv_fload_n C.1 C.2.1 hd hi (lv_at hl j hj) (k H locs ls hl hP hD hS)
theorem v_fload (C : Cx p s m args c cc nL own D A cI cJ) {i : Nat} {x : UInt32} (j : Nat) (hd : decode cc pc = .ok (.fload i, 2)) (hj : lv[j]? = some (i, .float x)) (k : V p l e R s m args below meth c nL D A cells slots Q (pc + 2) lv (.float x :: st) ws) : V p l e R s m args below meth c nL D A cells slots Q pc lv st ws := fun H locs ls hl hP hD hS => lv_fload C.1 C.2.1 hd (lv_at hl j hj) (k H locs ls hl hP hD hS)
theorem v_fstore_n (C : Cx p s m args c cc nL own D A cI cJ) {k4 : Fin 4} {i : Nat} {x : UInt32} (lv' : List (Nat × Value)) (hd : decode cc pc = .ok (.fstore_n k4, 1)) (hi : (k4 : Nat) = i) (hn : i < nL) (hw : (i, Value.float x) :: lv.filter (fun q => !(q.1 == i) && !(q.1 + 1 == i && q.2.category == 2)) = lv') (k : V p l e R s m args below meth c nL D A cells slots Q (pc + 1) lv' st ws) : V p l e R s m args below meth c nL D A cells slots Q pc lv (.float x :: st) ws := fun H locs ls hl hP hD hS => lv_fstore_n C.1 C.2.1 hd hi hl hn hw (fun ls hl => k H locs ls hl hP hD hS)
theorem v_fstore (C : Cx p s m args c cc nL own D A cI cJ) {i : Nat} {x : UInt32} (lv' : List (Nat × Value)) (hd : decode cc pc = .ok (.fstore i, 2)) (hn : i < nL) (hw : (i, Value.float x) :: lv.filter (fun q => !(q.1 == i) && !(q.1 + 1 == i && q.2.category == 2)) = lv') (k : V p l e R s m args below meth c nL D A cells slots Q (pc + 2) lv' st ws) : V p l e R s m args below meth c nL D A cells slots Q pc lv (.float x :: st) ws := fun H locs ls hl hP hD hS => lv_fstore C.1 C.2.1 hd hl hn hw (fun ls hl => k H locs ls hl hP hD hS)
theorem v_dload_n (C : Cx p s m args c cc nL own D A cI cJ) {k4 : Fin 4} {i : Nat} {x : UInt64} (j : Nat) (hd : decode cc pc = .ok (.dload_n k4, 1)) (hi : (k4 : Nat) = i) (hj : lv[j]? = some (i, .double x)) (k : V p l e R s m args below meth c nL D A cells slots Q (pc + 1) lv (.double x :: st) ws) : V p l e R s m args below meth c nL D A cells slots Q pc lv st ws := fun H locs ls hl hP hD hS => lv_dload_n C.1 C.2.1 hd hi (lv_at hl j hj) (k H locs ls hl hP hD hS)
theorem v_dload (C : Cx p s m args c cc nL own D A cI cJ) {i : Nat} {x : UInt64} (j : Nat) (hd : decode cc pc = .ok (.dload i, 2)) (hj : lv[j]? = some (i, .double x)) (k : V p l e R s m args below meth c nL D A cells slots Q (pc + 2) lv (.double x :: st) ws) : V p l e R s m args below meth c nL D A cells slots Q pc lv st ws := fun H locs ls hl hP hD hS => lv_dload C.1 C.2.1 hd (lv_at hl j hj) (k H locs ls hl hP hD hS)
theorem v_dstore_n (C : Cx p s m args c cc nL own D A cI cJ) {k4 : Fin 4} {i : Nat} {x : UInt64} (lv' : List (Nat × Value)) (hd : decode cc pc = .ok (.dstore_n k4, 1)) (hi : (k4 : Nat) = i) (hn : i + 1 < nL) (hw : (i, Value.double x) :: lv.filter (fun q => !(q.1 == i) && (!(q.1 == i + 1) && !(q.1 + 1 == i && q.2.category == 2))) = lv') (k : V p l e R s m args below meth c nL D A cells slots Q (pc + 1) lv' st ws) : V p l e R s m args below meth c nL D A cells slots Q pc lv (.double x :: st) ws := fun H locs ls hl hP hD hS => lv_dstore_n C.1 C.2.1 hd hi hl hn hw (fun ls hl => k H locs ls hl hP hD hS)
theorem v_dstore (C : Cx p s m args c cc nL own D A cI cJ) {i : Nat} {x : UInt64} (lv' : List (Nat × Value)) (hd : decode cc pc = .ok (.dstore i, 2)) (hn : i + 1 < nL) (hw : (i, Value.double x) :: lv.filter (fun q => !(q.1 == i) && (!(q.1 == i + 1) && !(q.1 + 1 == i && q.2.category == 2))) = lv') (k : V p l e R s m args below meth c nL D A cells slots Q (pc + 2) lv' st ws) : V p l e R s m args below meth c nL D A cells slots Q pc lv (.double x :: st) ws := fun H locs ls hl hP hD hS => lv_dstore C.1 C.2.1 hd hl hn hw (fun ls hl => k H locs ls hl hP hD hS)
theorem v_iinc (C : Cx p s m args c cc nL own D A cI cJ) {i : Nat} {n : Int} {x v : Int32} (lv' : List (Nat × Value)) (j : Nat) (hd : decode cc pc = .ok (.iinc i n, 3)) (hj : lv[j]? = some (i, .int x)) (hv : x + Int32.ofInt n = v) (hn : i < nL) (hw : (i, Value.int v) :: lv.filter (fun q => !(q.1 == i) && !(q.1 + 1 == i && q.2.category == 2)) = lv') (k : V p l e R s m args below meth c nL D A cells slots Q (pc + 3) lv' st ws) : V p l e R s m args below meth c nL D A cells slots Q pc lv st ws := fun H locs ls hl hP hD hS => lv_iinc C.1 C.2.1 hd hl hj hv hn hw (fun ls hl => k H locs ls hl hP hD hS)
theorem v_iadd (C : Cx p s m args c cc nL own D A cI cJ) {x y : Int32} (hd : decode cc pc = .ok (.iadd, 1)) (k : V p l e R s m args below meth c nL D A cells slots Q (pc + 1) lv (.int (x + y) :: st) ws) : V p l e R s m args below meth c nL D A cells slots Q pc lv (.int y :: .int x :: st) ws := fun H locs ls hl hP hD hS => lv_iadd C.1 C.2.1 hd (k H locs ls hl hP hD hS)
theorem v_isub (C : Cx p s m args c cc nL own D A cI cJ) {x y : Int32} (hd : decode cc pc = .ok (.isub, 1)) (k : V p l e R s m args below meth c nL D A cells slots Q (pc + 1) lv (.int (x - y) :: st) ws) : V p l e R s m args below meth c nL D A cells slots Q pc lv (.int y :: .int x :: st) ws := fun H locs ls hl hP hD hS => lv_isub C.1 C.2.1 hd (k H locs ls hl hP hD hS)
theorem v_imul (C : Cx p s m args c cc nL own D A cI cJ) {x y : Int32} (hd : decode cc pc = .ok (.imul, 1)) (k : V p l e R s m args below meth c nL D A cells slots Q (pc + 1) lv (.int (x * y) :: st) ws) : V p l e R s m args below meth c nL D A cells slots Q pc lv (.int y :: .int x :: st) ws := fun H locs ls hl hP hD hS => lv_imul C.1 C.2.1 hd (k H locs ls hl hP hD hS)
theorem v_iand (C : Cx p s m args c cc nL own D A cI cJ) {x y : Int32} (hd : decode cc pc = .ok (.iand, 1)) (k : V p l e R s m args below meth c nL D A cells slots Q (pc + 1) lv (.int (x &&& y) :: st) ws) : V p l e R s m args below meth c nL D A cells slots Q pc lv (.int y :: .int x :: st) ws := fun H locs ls hl hP hD hS => lv_iand C.1 C.2.1 hd (k H locs ls hl hP hD hS)
theorem v_ior (C : Cx p s m args c cc nL own D A cI cJ) {x y : Int32} (hd : decode cc pc = .ok (.ior, 1)) (k : V p l e R s m args below meth c nL D A cells slots Q (pc + 1) lv (.int (x ||| y) :: st) ws) : V p l e R s m args below meth c nL D A cells slots Q pc lv (.int y :: .int x :: st) ws := fun H locs ls hl hP hD hS => lv_ior C.1 C.2.1 hd (k H locs ls hl hP hD hS)
theorem v_ishl (C : Cx p s m args c cc nL own D A cI cJ) {x y : Int32} (hd : decode cc pc = .ok (.ishl, 1)) (k : V p l e R s m args below meth c nL D A cells slots Q (pc + 1) lv (.int (x <<< (y &&& 31)) :: st) ws) : V p l e R s m args below meth c nL D A cells slots Q pc lv (.int y :: .int x :: st) ws := fun H locs ls hl hP hD hS => lv_ishl C.1 C.2.1 hd (k H locs ls hl hP hD hS)
theorem v_ishr (C : Cx p s m args c cc nL own D A cI cJ) {x y : Int32} (hd : decode cc pc = .ok (.ishr, 1)) (k : V p l e R s m args below meth c nL D A cells slots Q (pc + 1) lv (.int (x >>> (y &&& 31)) :: st) ws) : V p l e R s m args below meth c nL D A cells slots Q pc lv (.int y :: .int x :: st) ws := fun H locs ls hl hP hD hS => lv_ishr C.1 C.2.1 hd (k H locs ls hl hP hD hS)
theorem v_land (C : Cx p s m args c cc nL own D A cI cJ) {x y : Int64} (hd : decode cc pc = .ok (.land, 1)) (k : V p l e R s m args below meth c nL D A cells slots Q (pc + 1) lv (.long (x &&& y) :: st) ws) : V p l e R s m args below meth c nL D A cells slots Q pc lv (.long y :: .long x :: st) ws := fun H locs ls hl hP hD hS => lv_land C.1 C.2.1 hd (k H locs ls hl hP hD hS)
theorem v_lor (C : Cx p s m args c cc nL own D A cI cJ) {x y : Int64} (hd : decode cc pc = .ok (.lor, 1)) (k : V p l e R s m args below meth c nL D A cells slots Q (pc + 1) lv (.long (x ||| y) :: st) ws) : V p l e R s m args below meth c nL D A cells slots Q pc lv (.long y :: .long x :: st) ws := fun H locs ls hl hP hD hS => lv_lor C.1 C.2.1 hd (k H locs ls hl hP hD hS)
theorem v_lxor (C : Cx p s m args c cc nL own D A cI cJ) {x y : Int64} (hd : decode cc pc = .ok (.lxor, 1)) (k : V p l e R s m args below meth c nL D A cells slots Q (pc + 1) lv (.long (x ^^^ y) :: st) ws) : V p l e R s m args below meth c nL D A cells slots Q pc lv (.long y :: .long x :: st) ws := fun H locs ls hl hP hD hS => lv_lxor C.1 C.2.1 hd (k H locs ls hl hP hD hS)
theorem v_ladd (C : Cx p s m args c cc nL own D A cI cJ) {x y : Int64} (hd : decode cc pc = .ok (.ladd, 1)) (k : V p l e R s m args below meth c nL D A cells slots Q (pc + 1) lv (.long (x + y) :: st) ws) : V p l e R s m args below meth c nL D A cells slots Q pc lv (.long y :: .long x :: st) ws := fun H locs ls hl hP hD hS => lv_ladd C.1 C.2.1 hd (k H locs ls hl hP hD hS)
theorem v_lsub (C : Cx p s m args c cc nL own D A cI cJ) {x y : Int64} (hd : decode cc pc = .ok (.lsub, 1)) (k : V p l e R s m args below meth c nL D A cells slots Q (pc + 1) lv (.long (x - y) :: st) ws) : V p l e R s m args below meth c nL D A cells slots Q pc lv (.long y :: .long x :: st) ws := fun H locs ls hl hP hD hS => lv_lsub C.1 C.2.1 hd (k H locs ls hl hP hD hS)
theorem v_lshl (C : Cx p s m args c cc nL own D A cI cJ) {x : Int64} {y : Int32} (hd : decode cc pc = .ok (.lshl, 1)) (k : V p l e R s m args below meth c nL D A cells slots Q (pc + 1) lv (.long (x <<< (y.toInt64 &&& 63)) :: st) ws) : V p l e R s m args below meth c nL D A cells slots Q pc lv (.int y :: .long x :: st) ws := fun H locs ls hl hP hD hS => lv_lshl C.1 C.2.1 hd rfl (k H locs ls hl hP hD hS)
theorem v_lshr (C : Cx p s m args c cc nL own D A cI cJ) {x : Int64} {y : Int32} (hd : decode cc pc = .ok (.lshr, 1)) (k : V p l e R s m args below meth c nL D A cells slots Q (pc + 1) lv (.long (x >>> (y.toInt64 &&& 63)) :: st) ws) : V p l e R s m args below meth c nL D A cells slots Q pc lv (.int y :: .long x :: st) ws := fun H locs ls hl hP hD hS => lv_lshr C.1 C.2.1 hd rfl (k H locs ls hl hP hD hS)
theorem v_lushr (C : Cx p s m args c cc nL own D A cI cJ) {x : Int64} {y : Int32} (hd : decode cc pc = .ok (.lushr, 1)) (k : V p l e R s m args below meth c nL D A cells slots Q (pc + 1) lv (.long ((x.toUInt64 >>> (y.toInt64.toUInt64 &&& Int64.toUInt64 63)).toInt64) :: st) ws) : V p l e R s m args below meth c nL D A cells slots Q pc lv (.int y :: .long x :: st) ws := fun H locs ls hl hP hD hS => lv_lushr C.1 C.2.1 hd rfl (k H locs ls hl hP hD hS)
theorem v_i2l (C : Cx p s m args c cc nL own D A cI cJ) {x : Int32} (hd : decode cc pc = .ok (.i2l, 1)) (k : V p l e R s m args below meth c nL D A cells slots Q (pc + 1) lv (.long x.toInt64 :: st) ws) : V p l e R s m args below meth c nL D A cells slots Q pc lv (.int x :: st) ws := fun H locs ls hl hP hD hS => lv_i2l C.1 C.2.1 hd rfl (k H locs ls hl hP hD hS)
theorem v_l2i (C : Cx p s m args c cc nL own D A cI cJ) {x : Int64} (hd : decode cc pc = .ok (.l2i, 1)) (k : V p l e R s m args below meth c nL D A cells slots Q (pc + 1) lv (.int x.toInt32 :: st) ws) : V p l e R s m args below meth c nL D A cells slots Q pc lv (.long x :: st) ws := fun H locs ls hl hP hD hS => lv_l2i C.1 C.2.1 hd rfl (k H locs ls hl hP hD hS)
theorem v_i2f (C : Cx p s m args c cc nL own D A cI cJ) {x : Int32} (hd : decode cc pc = .ok (.i2f, 1)) (k : V p l e R s m args below meth c nL D A cells slots Q (pc + 1) lv (.float (FP.i2f x) :: st) ws) : V p l e R s m args below meth c nL D A cells slots Q pc lv (.int x :: st) ws := fun H locs ls hl hP hD hS => lv_i2f C.1 C.2.1 hd (k H locs ls hl hP hD hS)
theorem v_fdiv (C : Cx p s m args c cc nL own D A cI cJ) {x y : UInt32} (hne : vf_n32 (FP.fdiv x y)) (hd : decode cc pc = .ok (.fdiv, 1)) (k : V p l e R s m args below meth c nL D A cells slots Q (pc + 1) lv (.float (FP.fdiv x y) :: st) ws) : V p l e R s m args below meth c nL D A cells slots Q pc lv (.float y :: .float x :: st) ws := fun H locs ls hl hP hD hS => lv_fdiv C.1 C.2.1 hd hne (k H locs ls hl hP hD hS)
theorem v_f2d (C : Cx p s m args c cc nL own D A cI cJ) {x : UInt32} (hne : vf_n64 (FP.f2d x)) (hd : decode cc pc = .ok (.f2d, 1)) (k : V p l e R s m args below meth c nL D A cells slots Q (pc + 1) lv (.double (FP.f2d x) :: st) ws) : V p l e R s m args below meth c nL D A cells slots Q pc lv (.float x :: st) ws := fun H locs ls hl hP hD hS => lv_f2d C.1 C.2.1 hd hne (k H locs ls hl hP hD hS)
theorem v_dcmp (C : Cx p s m args c cc nL own D A cI cJ) {x y : UInt64} {op : CmpOp} (hd : decode cc pc = .ok (.dcmp op, 1)) (k : V p l e R s m args below meth c nL D A cells slots Q (pc + 1) lv (.int (Op.cmpValue (FP.dcmp x y) op) :: st) ws) : V p l e R s m args below meth c nL D A cells slots Q pc lv (.double y :: .double x :: st) ws := fun H locs ls hl hP hD hS => lv_dcmp C.1 C.2.1 hd (k H locs ls hl hP hD hS)
theorem v_lcmp (C : Cx p s m args c cc nL own D A cI cJ) {x y : Int64} (hd : decode cc pc = .ok (.lcmp, 1)) (k : V p l e R s m args below meth c nL D A cells slots Q (pc + 1) lv (.int (lg_cmp x y) :: st) ws) : V p l e R s m args below meth c nL D A cells slots Q pc lv (.long y :: .long x :: st) ws := fun H locs ls hl hP hD hS => W.lcmp C.1 C.2.1 hd (k H locs ls hl hP hD hS)
theorem v_dup (C : Cx p s m args c cc nL own D A cI cJ) {v : Value} (hd : decode cc pc = .ok (.dup, 1)) (hv : v.category = 1) (k : V p l e R s m args below meth c nL D A cells slots Q (pc + 1) lv (v :: v :: st) ws) : V p l e R s m args below meth c nL D A cells slots Q pc lv (v :: st) ws := fun H locs ls hl hP hD hS => lv_dup C.1 C.2.1 hd hv (k H locs ls hl hP hD hS)
theorem v_pop (C : Cx p s m args c cc nL own D A cI cJ) {v : Value} (hd : decode cc pc = .ok (.pop, 1)) (hv : v.category = 1) (k : V p l e R s m args below meth c nL D A cells slots Q (pc + 1) lv st ws) : V p l e R s m args below meth c nL D A cells slots Q pc lv (v :: st) ws := fun H locs ls hl hP hD hS => lv_pop C.1 C.2.1 hd hv (k H locs ls hl hP hD hS)
theorem v_dup2 (C : Cx p s m args c cc nL own D A cI cJ) {v w : Value} (hd : decode cc pc = .ok (.dup2, 1)) (hv : v.category = 1) (hw : w.category = 1) (k : V p l e R s m args below meth c nL D A cells slots Q (pc + 1) lv (v :: w :: v :: w :: st) ws) : V p l e R s m args below meth c nL D A cells slots Q pc lv (v :: w :: st) ws := fun H locs ls hl hP hD hS => lv_dup2_11 C.1 C.2.1 hd hv hw (k H locs ls hl hP hD hS)
theorem v_if_eq (C : Cx p s m args c cc nL own D A cI cJ) {x : Int32} {off : Int} {tgt : Nat} {α : Type} {f g : Option α} {o : α} (hd : decode cc pc = .ok (.ifCond .eq off, 3)) (ht : (pc : Int) + off = (tgt : Int)) (h : (if x = 0 then f else g) = some o) (k1 : f = some o → V p l e R s m args below meth c nL D A cells slots Q tgt lv st ws) (k2 : g = some o → V p l e R s m args below meth c nL D A cells slots Q (pc + 3) lv st ws) : V p l e R s m args below meth c nL D A cells slots Q pc lv (.int x :: st) ws := fun H locs ls hl hP hD hS => lv_if_eq C.1 C.2.1 hd ht (fun q => k1 ((if_pos q).symm.trans h) H locs ls hl hP hD hS) (fun q => k2 ((if_neg q).symm.trans h) H locs ls hl hP hD hS)
theorem v_if_ne (C : Cx p s m args c cc nL own D A cI cJ) {x : Int32} {off : Int} {tgt : Nat} {α : Type} {f g : Option α} {o : α} (hd : decode cc pc = .ok (.ifCond .ne off, 3)) (ht : (pc : Int) + off = (tgt : Int)) (h : (if x = 0 then f else g) = some o) (k1 : f = some o → V p l e R s m args below meth c nL D A cells slots Q (pc + 3) lv st ws) (k2 : g = some o → V p l e R s m args below meth c nL D A cells slots Q tgt lv st ws) : V p l e R s m args below meth c nL D A cells slots Q pc lv (.int x :: st) ws := fun H locs ls hl hP hD hS => lv_if_ne C.1 C.2.1 hd ht (fun q => k2 ((if_neg q).symm.trans h) H locs ls hl hP hD hS) (fun q => k1 ((if_pos q).symm.trans h) H locs ls hl hP hD hS)
theorem v_if_lt (C : Cx p s m args c cc nL own D A cI cJ) {x : Int32} {off : Int} {tgt : Nat} {α : Type} {f g : Option α} {o : α} (hd : decode cc pc = .ok (.ifCond .lt off, 3)) (ht : (pc : Int) + off = (tgt : Int)) (h : (if x < 0 then f else g) = some o) (k1 : f = some o → V p l e R s m args below meth c nL D A cells slots Q tgt lv st ws) (k2 : g = some o → V p l e R s m args below meth c nL D A cells slots Q (pc + 3) lv st ws) : V p l e R s m args below meth c nL D A cells slots Q pc lv (.int x :: st) ws := fun H locs ls hl hP hD hS => lv_if_lt C.1 C.2.1 hd ht (fun q => k1 ((if_pos q).symm.trans h) H locs ls hl hP hD hS) (fun q => k2 ((if_neg q).symm.trans h) H locs ls hl hP hD hS)
theorem v_if_ge (C : Cx p s m args c cc nL own D A cI cJ) {x : Int32} {off : Int} {tgt : Nat} {α : Type} {f g : Option α} {o : α} (hd : decode cc pc = .ok (.ifCond .ge off, 3)) (ht : (pc : Int) + off = (tgt : Int)) (h : (if 0 ≤ x then f else g) = some o) (k1 : f = some o → V p l e R s m args below meth c nL D A cells slots Q tgt lv st ws) (k2 : g = some o → V p l e R s m args below meth c nL D A cells slots Q (pc + 3) lv st ws) : V p l e R s m args below meth c nL D A cells slots Q pc lv (.int x :: st) ws := fun H locs ls hl hP hD hS => lv_if_ge C.1 C.2.1 hd ht (fun q => k1 ((if_pos q).symm.trans h) H locs ls hl hP hD hS) (fun q => k2 ((if_neg q).symm.trans h) H locs ls hl hP hD hS)
theorem v_if_gt (C : Cx p s m args c cc nL own D A cI cJ) {x : Int32} {off : Int} {tgt : Nat} {α : Type} {f g : Option α} {o : α} (hd : decode cc pc = .ok (.ifCond .gt off, 3)) (ht : (pc : Int) + off = (tgt : Int)) (h : (if 0 < x then f else g) = some o) (k1 : f = some o → V p l e R s m args below meth c nL D A cells slots Q tgt lv st ws) (k2 : g = some o → V p l e R s m args below meth c nL D A cells slots Q (pc + 3) lv st ws) : V p l e R s m args below meth c nL D A cells slots Q pc lv (.int x :: st) ws := fun H locs ls hl hP hD hS => lv_if_gt C.1 C.2.1 hd ht (fun q => k1 ((if_pos q).symm.trans h) H locs ls hl hP hD hS) (fun q => k2 ((if_neg q).symm.trans h) H locs ls hl hP hD hS)
theorem v_if_le (C : Cx p s m args c cc nL own D A cI cJ) {x : Int32} {off : Int} {tgt : Nat} {α : Type} {f g : Option α} {o : α} (hd : decode cc pc = .ok (.ifCond .le off, 3)) (ht : (pc : Int) + off = (tgt : Int)) (h : (if x ≤ 0 then f else g) = some o) (k1 : f = some o → V p l e R s m args below meth c nL D A cells slots Q tgt lv st ws) (k2 : g = some o → V p l e R s m args below meth c nL D A cells slots Q (pc + 3) lv st ws) : V p l e R s m args below meth c nL D A cells slots Q pc lv (.int x :: st) ws := fun H locs ls hl hP hD hS => lv_if_le C.1 C.2.1 hd ht (fun q => k1 ((if_pos q).symm.trans h) H locs ls hl hP hD hS) (fun q => k2 ((if_neg q).symm.trans h) H locs ls hl hP hD hS)
theorem v_icmp_eq (C : Cx p s m args c cc nL own D A cI cJ) {x y : Int32} {off : Int} {tgt : Nat} {α : Type} {f g : Option α} {o : α} (hd : decode cc pc = .ok (.if_icmp .eq off, 3)) (ht : (pc : Int) + off = (tgt : Int)) (h : (if x = y then f else g) = some o) (k1 : f = some o → V p l e R s m args below meth c nL D A cells slots Q tgt lv st ws) (k2 : g = some o → V p l e R s m args below meth c nL D A cells slots Q (pc + 3) lv st ws) : V p l e R s m args below meth c nL D A cells slots Q pc lv (.int y :: .int x :: st) ws := fun H locs ls hl hP hD hS => lv_icmp_eq C.1 C.2.1 hd ht (fun q => k1 ((if_pos q).symm.trans h) H locs ls hl hP hD hS) (fun q => k2 ((if_neg q).symm.trans h) H locs ls hl hP hD hS)
theorem v_icmp_ne (C : Cx p s m args c cc nL own D A cI cJ) {x y : Int32} {off : Int} {tgt : Nat} {α : Type} {f g : Option α} {o : α} (hd : decode cc pc = .ok (.if_icmp .ne off, 3)) (ht : (pc : Int) + off = (tgt : Int)) (h : (if x = y then f else g) = some o) (k1 : f = some o → V p l e R s m args below meth c nL D A cells slots Q (pc + 3) lv st ws) (k2 : g = some o → V p l e R s m args below meth c nL D A cells slots Q tgt lv st ws) : V p l e R s m args below meth c nL D A cells slots Q pc lv (.int y :: .int x :: st) ws := fun H locs ls hl hP hD hS => lv_icmp_ne C.1 C.2.1 hd ht (fun q => k2 ((if_neg q).symm.trans h) H locs ls hl hP hD hS) (fun q => k1 ((if_pos q).symm.trans h) H locs ls hl hP hD hS)
theorem v_icmp_lt (C : Cx p s m args c cc nL own D A cI cJ) {x y : Int32} {off : Int} {tgt : Nat} {α : Type} {f g : Option α} {o : α} (hd : decode cc pc = .ok (.if_icmp .lt off, 3)) (ht : (pc : Int) + off = (tgt : Int)) (h : (if x < y then f else g) = some o) (k1 : f = some o → V p l e R s m args below meth c nL D A cells slots Q tgt lv st ws) (k2 : g = some o → V p l e R s m args below meth c nL D A cells slots Q (pc + 3) lv st ws) : V p l e R s m args below meth c nL D A cells slots Q pc lv (.int y :: .int x :: st) ws := fun H locs ls hl hP hD hS => lv_icmp_lt C.1 C.2.1 hd ht (fun q => k1 ((if_pos q).symm.trans h) H locs ls hl hP hD hS) (fun q => k2 ((if_neg q).symm.trans h) H locs ls hl hP hD hS)
theorem v_icmp_ge (C : Cx p s m args c cc nL own D A cI cJ) {x y : Int32} {off : Int} {tgt : Nat} {α : Type} {f g : Option α} {o : α} (hd : decode cc pc = .ok (.if_icmp .ge off, 3)) (ht : (pc : Int) + off = (tgt : Int)) (h : (if y ≤ x then f else g) = some o) (k1 : f = some o → V p l e R s m args below meth c nL D A cells slots Q tgt lv st ws) (k2 : g = some o → V p l e R s m args below meth c nL D A cells slots Q (pc + 3) lv st ws) : V p l e R s m args below meth c nL D A cells slots Q pc lv (.int y :: .int x :: st) ws := fun H locs ls hl hP hD hS => lv_icmp_ge C.1 C.2.1 hd ht (fun q => k1 ((if_pos q).symm.trans h) H locs ls hl hP hD hS) (fun q => k2 ((if_neg q).symm.trans h) H locs ls hl hP hD hS)
theorem v_icmp_gt (C : Cx p s m args c cc nL own D A cI cJ) {x y : Int32} {off : Int} {tgt : Nat} {α : Type} {f g : Option α} {o : α} (hd : decode cc pc = .ok (.if_icmp .gt off, 3)) (ht : (pc : Int) + off = (tgt : Int)) (h : (if y < x then f else g) = some o) (k1 : f = some o → V p l e R s m args below meth c nL D A cells slots Q tgt lv st ws) (k2 : g = some o → V p l e R s m args below meth c nL D A cells slots Q (pc + 3) lv st ws) : V p l e R s m args below meth c nL D A cells slots Q pc lv (.int y :: .int x :: st) ws := fun H locs ls hl hP hD hS => lv_icmp_gt C.1 C.2.1 hd ht (fun q => k1 ((if_pos q).symm.trans h) H locs ls hl hP hD hS) (fun q => k2 ((if_neg q).symm.trans h) H locs ls hl hP hD hS)
theorem v_icmp_le (C : Cx p s m args c cc nL own D A cI cJ) {x y : Int32} {off : Int} {tgt : Nat} {α : Type} {f g : Option α} {o : α} (hd : decode cc pc = .ok (.if_icmp .le off, 3)) (ht : (pc : Int) + off = (tgt : Int)) (h : (if x ≤ y then f else g) = some o) (k1 : f = some o → V p l e R s m args below meth c nL D A cells slots Q tgt lv st ws) (k2 : g = some o → V p l e R s m args below meth c nL D A cells slots Q (pc + 3) lv st ws) : V p l e R s m args below meth c nL D A cells slots Q pc lv (.int y :: .int x :: st) ws := fun H locs ls hl hP hD hS => lv_icmp_le C.1 C.2.1 hd ht (fun q => k1 ((if_pos q).symm.trans h) H locs ls hl hP hD hS) (fun q => k2 ((if_neg q).symm.trans h) H locs ls hl hP hD hS)
theorem v_goto (C : Cx p s m args c cc nL own D A cI cJ) {off : Int} {tgt : Nat} (hd : decode cc pc = .ok (.goto off, 3)) (ht : (pc : Int) + off = (tgt : Int)) (k : V p l e R s m args below meth c nL D A cells slots Q tgt lv st ws) : V p l e R s m args below meth c nL D A cells slots Q pc lv st ws := fun H locs ls hl hP hD hS => lv_goto C.1 C.2.1 hd ht (k H locs ls hl hP hD hS)
theorem v_get (C : Cx p s m args c cc nL own D A cI cJ) {a ci N index : Nat} {RC ref : String} {T : u_T} {fs : List Value} {v : Value} (q0 kf : Nat) (hin : ∀ w ∈ u_ws RC T N, w ∈ TB) (he : ws[q0]? = some (a, .inr (ci, fs))) (hc : vwCl[ci]? = some (RC, T, N)) (hk : kf < N) (hlink : Cond.fieldLink own index ref (T kf).2.1 (T kf).2.2.1 ∈ TB) (hsame : ref = (T kf).1) (hv : fs[kf]? = some v) (hd : decode cc pc = .ok (.getfield index, 3)) (k : V p l e R s m args below meth c nL D A cells slots Q (pc + 3) lv (v :: st) ws) : V p l e R s m args below meth c nL D A cells slots Q pc lv (.ref a :: st) ws := fun H locs ls hl hP hD hS => va_get C.1 C.2.1 C.2.2.2.2.1 hin C.2.2.2.1 C.2.2.2.2.2.1.1 hP q0 he hc kf hk (C.2.2.2.2.1 _ hlink) (fun x h => by rw [hsame]; exact h) hv hd (k H locs ls hl hP hD hS)
theorem v_getN (C : Cx p s m args c cc nL own D A cI cJ) {a ci N index : Nat} {RC ref host : String} {T : u_T} {fs : List Value} {v : Value} (q0 kf : Nat) (hin : ∀ w ∈ u_ws RC T N, w ∈ TB) (he : ws[q0]? = some (a, .inr (ci, fs))) (hc : vwCl[ci]? = some (RC, T, N)) (hk : kf < N) (hlink : Cond.fieldLinkNest own index ref (T kf).2.1 (T kf).2.2.1 host ∈ NWL) (hsame : ref = (T kf).1) (hv : fs[kf]? = some v) (hd : decode cc pc = .ok (.getfield index, 3)) (k : V p l e R s m args below meth c nL D A cells slots Q (pc + 3) lv (v :: st) ws) : V p l e R s m args below meth c nL D A cells slots Q pc lv (.ref a :: st) ws := fun H locs ls hl hP hD hS => va_getN C.1 C.2.1 C.2.2.2.2.1 hin C.2.2.2.1 C.2.2.2.2.2.1.1 hP q0 he hc kf hk (va_Nw.use (nwl_ot _ hlink) (C.2.2.2.2.2.1.2 _ hlink)) (fun x h => by rw [hsame]; exact h) hv hd (k H locs ls hl hP hD hS)
theorem v_put (C : Cx p s m args c cc nL own D A cI cJ) {a ci N index : Nat} {RC ref : String} {T : u_T} {ty0 : Nat → FieldType} {fs : List Value} {v : Value} {ty : FieldType} (ws' : va_W) (q0 kf : Nat) (hin : ∀ w ∈ u_ws RC T N, w ∈ TB) (hty : ∀ k, k < N → parseFieldDescriptor (T k).2.2.1 = some (ty0 k)) (hnm : ∀ a, a < N → ∀ b, b < N → a ≠ b → (T a).2.1 ≠ (T b).2.1) (he : ws[q0]? = some (a, .inr (ci, fs))) (hc : vwCl[ci]? = some (RC, T, N)) (hk : kf < N) (hlink : Cond.fieldLink own index ref (T kf).2.1 (T kf).2.2.1 ∈ TB) (hsame : ref = (T kf).1) (hfin : (T kf).2.2.2 = false) (hd' : ty0 kf = ty) (hn : narrow ty v = v) (hfit : fits ty v = true) (hl' : kf < fs.length) (hd : decode cc pc = .ok (.putfield index, 3)) (hw : ws.set q0 (a, .inr (ci, fs.set kf v)) = ws') (k : V p l e R s m args below meth c nL D A cells slots Q (pc + 3) lv st ws') : V p l e R s m args below meth c nL D A cells slots Q pc lv (v :: .ref a :: st) ws := fun H locs ls hl hP hD hS => va_put C.1 C.2.1 C.2.2.2.2.1 hin ty0 hty hnm C.2.2.2.1 C.2.2.2.2.2.1.1 hP hD hS q0 he hc kf hk (C.2.2.2.2.1 _ hlink) (fun x h => by rw [hsame]; exact h) hfin (by rw [hty kf hk, hd']) hn hfit hl' hd (fun H1 locs1 hP1 hD1 hS1 => k H1 locs1 ls hl (hw ▸ hP1) (hw ▸ hD1) hS1)
theorem v_putF (C : Cx p s m args c cc nL own D A cI cJ) {a ci N index : Nat} {RC ref : String} {T : u_T} {ty0 : Nat → FieldType} {fs : List Value} {v : Value} {ty : FieldType} (ws' : va_W) (q0 kf : Nat) (hin : ∀ w ∈ u_ws RC T N, w ∈ TB) (hty : ∀ k, k < N → parseFieldDescriptor (T k).2.2.1 = some (ty0 k)) (hnm : ∀ a, a < N → ∀ b, b < N → a ≠ b → (T a).2.1 ≠ (T b).2.1) (he : ws[q0]? = some (a, .inr (ci, fs))) (hc : vwCl[ci]? = some (RC, T, N)) (hk : kf < N) (hlink : Cond.fieldLink own index ref (T kf).2.1 (T kf).2.2.1 ∈ TB) (hsame : ref = (T kf).1) (hfin : (T kf).2.2.2 = true) (hin2 : meth.name = "<init>") (hdecl : (T kf).1 = own) (hd' : ty0 kf = ty) (hn : narrow ty v = v) (hfit : fits ty v = true) (hl' : kf < fs.length) (hd : decode cc pc = .ok (.putfield index, 3)) (hw : ws.set q0 (a, .inr (ci, fs.set kf v)) = ws') (k : V p l e R s m args below meth c nL D A cells slots Q (pc + 3) lv st ws') : V p l e R s m args below meth c nL D A cells slots Q pc lv (v :: .ref a :: st) ws := fun H locs ls hl hP hD hS => va_putF C.1 C.2.1 C.2.2.2.2.1 hin ty0 hty hnm C.2.2.2.1 C.2.2.2.2.2.1.1 hP hD hS q0 he hc kf hk (C.2.2.2.2.1 _ hlink) (fun x h => by rw [hsame]; exact h) hfin hin2 hdecl (by rw [hty kf hk, hd']) hn hfit hl' hd (fun H1 locs1 hP1 hD1 hS1 => k H1 locs1 ls hl (hw ▸ hP1) (hw ▸ hD1) hS1)
theorem v_iald (C : Cx p s m args c cc nL own D A cI cJ) {a n : Nat} {f : Nat → Int32} {i : Int32} {α : Type} {g : Option α} {o : α} (q0 : Nat) (ha : ws[q0]? = some (a, .inl (cI, n, .inl f))) (hd : decode cc pc = .ok (.iaload, 1)) (h : bnd i n g = some o) (k : g = some o → V p l e R s m args below meth c nL D A cells slots Q (pc + 1) lv (.int (f i.toNatClampNeg) :: st) ws) : V p l e R s m args below meth c nL D A cells slots Q pc lv (.int i :: .ref a :: st) ws := fun H locs ls hl hP hD hS => va_iald C.1 C.2.1 C.2.2.2.2.2.1.1 hP q0 0 ha rfl (bnd_el h).1 hd (k (bnd_el h).2 H locs ls hl hP hD hS)
theorem v_lald (C : Cx p s m args c cc nL own D A cI cJ) {a n : Nat} {f : Nat → Int64} {i : Int32} {α : Type} {g : Option α} {o : α} (q0 : Nat) (ha : ws[q0]? = some (a, .inl (cJ, n, .inr (.inl f)))) (hd : decode cc pc = .ok (.laload, 1)) (h : bnd i n g = some o) (k : g = some o → V p l e R s m args below meth c nL D A cells slots Q (pc + 1) lv (.long (f i.toNatClampNeg) :: st) ws) : V p l e R s m args below meth c nL D A cells slots Q pc lv (.int i :: .ref a :: st) ws := fun H locs ls hl hP hD hS => va_lald C.1 C.2.1 C.2.2.2.2.2.1.1 hP q0 1 ha rfl (bnd_el h).1 hd (k (bnd_el h).2 H locs ls hl hP hD hS)
theorem v_iast (C : Cx p s m args c cc nL own D A cI cJ) {a n : Nat} {f : Nat → Int32} {i x : Int32} {α : Type} {g : Option α} {o : α} (ws' : va_W) (q0 : Nat) (ha : ws[q0]? = some (a, .inl (cI, n, .inl f))) (hd : decode cc pc = .ok (.iastore, 1)) (h : bnd i n g = some o) (hw : ws.set q0 (a, .inl (cI, n, .inl (upd f i.toNatClampNeg x))) = ws') (k : g = some o → V p l e R s m args below meth c nL D A cells slots Q (pc + 1) lv st ws') : V p l e R s m args below meth c nL D A cells slots Q pc lv (.int x :: .int i :: .ref a :: st) ws := fun H locs ls hl hP hD hS => va_iast C.1 C.2.1 C.2.2.2.2.2.1.1 hP hD hS q0 0 ha rfl (bnd_el h).1 hd (fun H1 locs1 hP1 hD1 hS1 => k (bnd_el h).2 H1 locs1 ls hl (hw ▸ hP1) (hw ▸ hD1) hS1)
theorem v_last (C : Cx p s m args c cc nL own D A cI cJ) {a n : Nat} {f : Nat → Int64} {i : Int32} {x : Int64} {α : Type} {g : Option α} {o : α} (ws' : va_W) (q0 : Nat) (ha : ws[q0]? = some (a, .inl (cJ, n, .inr (.inl f)))) (hd : decode cc pc = .ok (.lastore, 1)) (h : bnd i n g = some o) (hw : ws.set q0 (a, .inl (cJ, n, .inr (.inl (vp_updL f i.toNatClampNeg x)))) = ws') (k : g = some o → V p l e R s m args below meth c nL D A cells slots Q (pc + 1) lv st ws') : V p l e R s m args below meth c nL D A cells slots Q pc lv (.long x :: .int i :: .ref a :: st) ws := fun H locs ls hl hP hD hS => va_last C.1 C.2.1 C.2.2.2.2.2.1.1 hP hD hS q0 1 ha rfl (bnd_el h).1 hd (fun H1 locs1 hP1 hD1 hS1 => k (bnd_el h).2 H1 locs1 ls hl (hw ▸ hP1) (hw ▸ hD1) hS1)
theorem v_alenI (C : Cx p s m args c cc nL own D A cI cJ) {a : Nat} {x : vp_A} {v : Int32} (q0 : Nat) (ha : ws[q0]? = some (a, .inl (cI, x))) (hv : Int32.ofNat x.1 = v) (hd : decode cc pc = .ok (.arraylength, 1)) (k : V p l e R s m args below meth c nL D A cells slots Q (pc + 1) lv (.int v :: st) ws) : V p l e R s m args below meth c nL D A cells slots Q pc lv (.ref a :: st) ws := fun H locs ls hl hP hD hS => va_alen C.1 C.2.1 C.2.2.2.2.2.1.1 hP q0 0 ha (ty := .int) rfl hv hd (k H locs ls hl hP hD hS)
theorem v_alenJ (C : Cx p s m args c cc nL own D A cI cJ) {a : Nat} {x : vp_A} {v : Int32} (q0 : Nat) (ha : ws[q0]? = some (a, .inl (cJ, x))) (hv : Int32.ofNat x.1 = v) (hd : decode cc pc = .ok (.arraylength, 1)) (k : V p l e R s m args below meth c nL D A cells slots Q (pc + 1) lv (.int v :: st) ws) : V p l e R s m args below meth c nL D A cells slots Q pc lv (.ref a :: st) ws := fun H locs ls hl hP hD hS => va_alen C.1 C.2.1 C.2.2.2.2.2.1.1 hP q0 1 ha (ty := .long) rfl hv hd (k H locs ls hl hP hD hS)
end
end
section
def Pre (D : va_G) (cI cJ : ClassId) (av : List Value) (sz : Nat) (ws : va_W) : Array Value → State → Prop := va_Pc av (fun U => U.heap.size = sz ∧ va_P D vwCl ws U.heap ∧ KK D cI cJ U ∧ va_D (fun _ => True) ws)
theorem Pre.blind {D : va_G} {cI cJ : ClassId} {av : List Value} {sz : Nat} {ws : va_W} : FrameBlind (Pre D cI cJ av sz ws) := fun a U g mk q => ⟨q.1, q.2.1, q.2.2.1, KK.same (u := U) (U := U.calling g mk a) rfl q.2.2.2.1, q.2.2.2.2⟩
def Wd (D : va_G) (A : Nat → Prop) (ws : va_W) (_ : Unit) (t : State) : Prop := va_P D vwCl ws t.heap ∧ va_D A ws
abbrev rmO (f n : Nat) : Room := { frames := f, cells := 0, slots := 0, locals := n }
theorem P_map {D : va_G} {cl : List vw_C} {ws ws' : va_W} {H : Heap} (h : va_P D cl ws H) (is : List Nat) (hs : is.map (fun i => ws[i]?) = ws'.map some) : va_P D cl ws' H := by
  intro k q hk
  have h1 : (is.map (fun i => ws[i]?))[k]? = some (some q) := by rw [hs, List.getElem?_map, hk]; rfl
  rw [List.getElem?_map] at h1
  cases hi : is[k]? with
  | none => rw [hi] at h1; cases h1
  | some i => rw [hi] at h1; exact h i q (Option.some.inj h1)
/-- a callee's words: an own instance method of class C2, or a static one -/
def CWv (y : MethodName) (bytes : ByteArray) (maxL : Nat) (ret : Option FieldType) (C2 : String) (np : Nat) : Prop := Cond.instanceMethod y ∈ TB ∧ Cond.selects C2 y y ∈ TB ∧ Cond.initialized C2 ∈ TB ∧ Cond.code y bytes maxL ret ∈ TB ∧ y.cls = C2 ∧ y.cls ≠ "java/lang/invoke/MethodHandle" ∧ y.cls ≠ "java/lang/invoke/VarHandle" ∧ (parseMethodDescriptor y.desc).map (fun d => d.parameters.length) = some np
def CWs (y : MethodName) (bytes : ByteArray) (maxL : Nat) (ret : Option FieldType) (np : Nat) : Prop := Cond.static y ∈ TB ∧ Cond.initialized y.cls ∈ TB ∧ Cond.code y bytes maxL ret ∈ TB ∧ y.cls ≠ "java/lang/invoke/MethodHandle" ∧ y.cls ≠ "java/lang/invoke/VarHandle" ∧ (parseMethodDescriptor y.desc).map (fun d => d.parameters.length) = some np
/-- a callee's places in the caller's world: its cells, the rest, and the order in which both stand behind the call -/
def Pl (ws wc wr w1 ws' : va_W) (isC isR pm : List Nat) : Prop := isC.map (fun i => ws[i]?) = wc.map some ∧ va_nd isC = true ∧ isR.map (fun i => ws[i]?) = wr.map some ∧ va_nd isR = true ∧ (∀ i ∈ isR, i ∉ isC) ∧ pm.map (fun i => (wr ++ w1)[i]?) = ws'.map some ∧ va_nd pm = true
def Cti (l : Launch) (D : va_G) (cI cJ : ClassId) (y : MethodName) (bytes : ByteArray) (maxL : Nat) (ret : Option FieldType) (f n : Nat) (av : List Value) (wc w1 : va_W) (r : Int32) : Prop := ∀ sz : Nat, Met l y (Cond.code y bytes maxL ret :: TB) (rmO f n) (Pre D cI cJ av sz wc) (va_Qi (fun (r' : Int32) (_ : Unit) => r' = r) (Wd D (va_A wc sz) w1) (va_A wc sz)) 0 0 (va_A wc sz)
def Ctl (l : Launch) (D : va_G) (cI cJ : ClassId) (y : MethodName) (bytes : ByteArray) (maxL : Nat) (ret : Option FieldType) (f n : Nat) (av : List Value) (wc w1 : va_W) (r : Int64) : Prop := ∀ sz : Nat, Met l y (Cond.code y bytes maxL ret :: TB) (rmO f n) (Pre D cI cJ av sz wc) (va_Ql (fun (r' : Int64) (_ : Unit) => r' = r) (Wd D (va_A wc sz) w1) (va_A wc sz)) 0 0 (va_A wc sz)
def Ctf (l : Launch) (D : va_G) (cI cJ : ClassId) (y : MethodName) (bytes : ByteArray) (maxL : Nat) (ret : Option FieldType) (f n : Nat) (av : List Value) (wc w1 : va_W) (r : UInt32) : Prop := ∀ sz : Nat, Met l y (Cond.code y bytes maxL ret :: TB) (rmO f n) (Pre D cI cJ av sz wc) (va_Qf (fun (r' : UInt32) (_ : Unit) => r' = r) (Wd D (va_A wc sz) w1) (va_A wc sz)) 0 0 (va_A wc sz)
def Ctv (l : Launch) (D : va_G) (cI cJ : ClassId) (y : MethodName) (bytes : ByteArray) (maxL : Nat) (ret : Option FieldType) (f n : Nat) (av : List Value) (wc w1 : va_W) : Prop := ∀ sz : Nat, Met l y (Cond.code y bytes maxL ret :: TB) (rmO f n) (Pre D cI cJ av sz wc) (va_Qv (fun _ : Unit => True) (Wd D (va_A wc sz) w1) (va_A wc sz)) 0 0 (va_A wc sz)
section
variable {p : Program} {l : Launch} {e : Env} {R : Room} {s : State} {m : MethodId} {args : Array Value} {below : List Frame} {meth : Method} {c : Code} {cc : ByteArray} {nL : Nat} {own : String} {D : va_G} {A : Nat → Prop} {cI cJ : ClassId} {cells slots : Nat} {Q : State → Prop} {pc : Nat} {lv : List (Nat × Value)} {st : List Value} {ws : va_W} {y : MethodName} {bytes : ByteArray} {maxL f n a idx np : Nat} {ret : Option FieldType} {As : List Value} {wc wr w1 ws' : va_W} {isC isR pm : List Nat} {C2 host : String}
theorem v_afteri (C : Cx p s m args c cc nL own D A cI cJ) {r : Int32} {st0 : List Value} {av : List Value} {H : Heap} {locs : List Loc} {ls : Array Slot} (hpl : Pl ws wc wr w1 ws' isC isR pm) (hl : lv_has ls nL lv) (hP : va_P D vwCl ws H) (hD : va_D A ws) (hS : va_S A s.heap H locs)
    (hr : va_Run p l e R s m args below meth c H locs cells slots 0 0 (F0 m pc ls st0) st (va_Qi (fun (r' : Int32) (_ : Unit) => r' = r) (Wd D (va_A wc H.size) w1) (va_A wc H.size) av.toArray) (va_A wc H.size)) (k : V p l e R s m args below meth c nL D A cells slots Q (pc + 3) lv (.int r :: st) ws') : W p l e R s m args below meth c H locs cells slots Q (F0 m pc ls st0) := by
  obtain ⟨hC, -, hRr, hn, hdis, hp, hpn⟩ := hpl
  have hFc := va_free (wc := wc) hD hS C.2.2.2.2.2.2 isC hC
  refine va_calli hr hS (fun q _ h => hFc q h) hFc (fun r' u t H1 locs ht hvm hw hB hz1 hk1 hS => ?_)
  obtain ⟨hP1, hD1⟩ := hB
  rw [ht] at hP1
  obtain ⟨hP, hD⟩ := va_join (wr := wr) (w1 := w1) hP hD isC isR hC hRr hn hdis hk1 hFc hP1 hD1
  subst hw
  exact k H1 locs ls hl (P_map hP pm hp) (hD.sub pm hpn hp) hS
theorem v_callVi (C : Cx p s m args c cc nL own D A cI cJ) {r : Int32} (hM : Cti l D cI cJ y bytes maxL ret f n (.ref a :: As) wc w1 r) (cw : CWv y bytes maxL ret C2 np) {T2 : u_T} {N2 ci : Nat} {fs : List Value} (q0 : Nat) (hrc : wc[q0]? = some (a, .inr (ci, fs))) (hcl : vwCl[ci]? = some (C2, T2, N2)) (hlk : Cond.methodLink own idx y ∈ TB) (hd : decode cc pc = .ok (.invokevirtual idx, 3)) (hnp : As.length = np) (hR : f + 1 ≤ R.frames ∧ 8 + (maxL + 11) + n ≤ R.locals) (hst : (st.map fun v => v.category).sum ≤ 8) (hcs : cells ≤ R.cells ∧ slots ≤ R.slots) (hpl : Pl ws wc wr w1 ws' isC isR pm) (k : V p l e R s m args below meth c nL D A cells slots Q (pc + 3) lv (.int r :: st) ws') : V p l e R s m args below meth c nL D A cells slots Q pc lv (As.reverse ++ .ref a :: st) ws := fun H locs ls hl hP hD hS => by
  obtain ⟨i1, i2, i3, i4, i5, i6, i7, i8⟩ := cw
  exact v_afteri C hpl hl hP hD hS (va_runV (As := As) (rest := st) ⟨C.1, C.2.1, C.2.2.1, C.2.2.2.1, C.2.2.2.2.1⟩ (hM H.size) (C := C2) ⟨callB_of np C.2.2.2.2.1 (tb_cons i4) rfl rfl rfl (by rw [i5]; exact C.2.2.2.2.1 _ i3) (C.2.2.2.2.1 _ hlk) ⟨i6, i7, i8⟩ hR, C.2.2.2.2.1 _ i1, C.2.2.2.2.1 _ i2⟩ ⟨Pre.blind, va_recv C.2.2.2.2.2.1.1 (P_map hP isC hpl.1) hcl hrc, fun U hU hW => ⟨rfl, by rw [hU], by rw [hU]; exact P_map hP isC hpl.1, C.2.2.2.2.2.1.warm hW, (hD.sub isC hpl.2.1 hpl.1).weaken (fun _ _ _ _ => trivial)⟩⟩ rfl hnp hl.1 rfl (lv_room hst) hd ⟨hcs.1, hcs.2⟩) k
theorem v_callNi (C : Cx p s m args c cc nL own D A cI cJ) {r : Int32} (hM : Cti l D cI cJ y bytes maxL ret f n (.ref a :: As) wc w1 r) (cw : CWv y bytes maxL ret C2 np) {T2 : u_T} {N2 ci : Nat} {fs : List Value} (q0 : Nat) (hrc : wc[q0]? = some (a, .inr (ci, fs))) (hcl : vwCl[ci]? = some (C2, T2, N2)) (hlk : Cond.methodLinkNest own idx y host ∈ NWL) (hd : decode cc pc = .ok (.invokevirtual idx, 3)) (hnp : As.length = np) (hR : f + 1 ≤ R.frames ∧ 8 + (maxL + 11) + n ≤ R.locals) (hst : (st.map fun v => v.category).sum ≤ 8) (hcs : cells ≤ R.cells ∧ slots ≤ R.slots) (hpl : Pl ws wc wr w1 ws' isC isR pm) (k : V p l e R s m args below meth c nL D A cells slots Q (pc + 3) lv (.int r :: st) ws') : V p l e R s m args below meth c nL D A cells slots Q pc lv (As.reverse ++ .ref a :: st) ws := fun H locs ls hl hP hD hS => by
  obtain ⟨i1, i2, i3, i4, i5, i6, i7, i8⟩ := cw
  exact v_afteri C hpl hl hP hD hS (va_runVN (As := As) (rest := st) ⟨C.1, C.2.1, C.2.2.1, C.2.2.2.1, C.2.2.2.2.1⟩ (hM H.size) (C := C2) ⟨va_cnB (host := host) np C.2.2.2.2.1 (tb_cons i4) rfl rfl rfl (C.2.2.2.2.2.1.2 _ hlk) (by rw [i5]; exact C.2.2.2.2.1 _ i3) ⟨i6, i7, i8⟩ hR, C.2.2.2.2.1 _ i1, C.2.2.2.2.1 _ i2⟩ ⟨Pre.blind, va_recv C.2.2.2.2.2.1.1 (P_map hP isC hpl.1) hcl hrc, fun U hU hW => ⟨rfl, by rw [hU], by rw [hU]; exact P_map hP isC hpl.1, C.2.2.2.2.2.1.warm hW, (hD.sub isC hpl.2.1 hpl.1).weaken (fun _ _ _ _ => trivial)⟩⟩ rfl hnp hl.1 rfl (lv_room hst) hd ⟨hcs.1, hcs.2⟩) k
theorem v_callSi (C : Cx p s m args c cc nL own D A cI cJ) {r : Int32} (hM : Cti l D cI cJ y bytes maxL ret f n As wc w1 r) (cw : CWs y bytes maxL ret np) (hlk : Cond.methodLink own idx y ∈ TB) (hd : decode cc pc = .ok (.invokestatic idx, 3)) (hnp : As.length = np) (hR : f + 1 ≤ R.frames ∧ 8 + (maxL + 11) + n ≤ R.locals) (hst : (st.map fun v => v.category).sum ≤ 8) (hcs : cells ≤ R.cells ∧ slots ≤ R.slots) (hpl : Pl ws wc wr w1 ws' isC isR pm) (k : V p l e R s m args below meth c nL D A cells slots Q (pc + 3) lv (.int r :: st) ws') : V p l e R s m args below meth c nL D A cells slots Q pc lv (As.reverse ++ st) ws := fun H locs ls hl hP hD hS => by
  obtain ⟨i1, i3, i4, i6, i7, i8⟩ := cw
  exact v_afteri C hpl hl hP hD hS (va_runS (As := As) (rest := st) ⟨C.1, C.2.1, C.2.2.1, C.2.2.2.1, C.2.2.2.2.1⟩ (hM H.size) ⟨callB_of np C.2.2.2.2.1 (tb_cons i4) rfl rfl rfl (C.2.2.2.2.1 _ i3) (C.2.2.2.2.1 _ hlk) ⟨i6, i7, i8⟩ hR, C.2.2.2.2.1 _ i1⟩ ⟨Pre.blind, fun U hU hW => ⟨rfl, by rw [hU], by rw [hU]; exact P_map hP isC hpl.1, C.2.2.2.2.2.1.warm hW, (hD.sub isC hpl.2.1 hpl.1).weaken (fun _ _ _ _ => trivial)⟩⟩ rfl hnp hl.1 rfl (lv_room hst) hd ⟨hcs.1, hcs.2⟩) k
theorem v_callSNi (C : Cx p s m args c cc nL own D A cI cJ) {r : Int32} (hM : Cti l D cI cJ y bytes maxL ret f n As wc w1 r) (cw : CWs y bytes maxL ret np) (hlk : Cond.methodLinkNest own idx y host ∈ NWL) (hd : decode cc pc = .ok (.invokestatic idx, 3)) (hnp : As.length = np) (hR : f + 1 ≤ R.frames ∧ 8 + (maxL + 11) + n ≤ R.locals) (hst : (st.map fun v => v.category).sum ≤ 8) (hcs : cells ≤ R.cells ∧ slots ≤ R.slots) (hpl : Pl ws wc wr w1 ws' isC isR pm) (k : V p l e R s m args below meth c nL D A cells slots Q (pc + 3) lv (.int r :: st) ws') : V p l e R s m args below meth c nL D A cells slots Q pc lv (As.reverse ++ st) ws := fun H locs ls hl hP hD hS => by
  obtain ⟨i1, i3, i4, i6, i7, i8⟩ := cw
  exact v_afteri C hpl hl hP hD hS (va_runSN (As := As) (rest := st) ⟨C.1, C.2.1, C.2.2.1, C.2.2.2.1, C.2.2.2.2.1⟩ (hM H.size) ⟨va_cnB (host := host) np C.2.2.2.2.1 (tb_cons i4) rfl rfl rfl (C.2.2.2.2.2.1.2 _ hlk) (C.2.2.2.2.1 _ i3) ⟨i6, i7, i8⟩ hR, C.2.2.2.2.1 _ i1, trivial⟩ ⟨Pre.blind, fun U hU hW => ⟨rfl, by rw [hU], by rw [hU]; exact P_map hP isC hpl.1, C.2.2.2.2.2.1.warm hW, (hD.sub isC hpl.2.1 hpl.1).weaken (fun _ _ _ _ => trivial)⟩⟩ rfl hnp hl.1 rfl (lv_room hst) hd ⟨hcs.1, hcs.2⟩) k
theorem v_afterl (C : Cx p s m args c cc nL own D A cI cJ) {r : Int64} {st0 : List Value} {av : List Value} {H : Heap} {locs : List Loc} {ls : Array Slot} (hpl : Pl ws wc wr w1 ws' isC isR pm) (hl : lv_has ls nL lv) (hP : va_P D vwCl ws H) (hD : va_D A ws) (hS : va_S A s.heap H locs)
    (hr : va_Run p l e R s m args below meth c H locs cells slots 0 0 (F0 m pc ls st0) st (va_Ql (fun (r' : Int64) (_ : Unit) => r' = r) (Wd D (va_A wc H.size) w1) (va_A wc H.size) av.toArray) (va_A wc H.size)) (k : V p l e R s m args below meth c nL D A cells slots Q (pc + 3) lv (.long r :: st) ws') : W p l e R s m args below meth c H locs cells slots Q (F0 m pc ls st0) := by
  obtain ⟨hC, -, hRr, hn, hdis, hp, hpn⟩ := hpl
  have hFc := va_free (wc := wc) hD hS C.2.2.2.2.2.2 isC hC
  refine va_calll hr hS (fun q _ h => hFc q h) hFc (fun r' u t H1 locs ht hvm hw hB hz1 hk1 hS => ?_)
  obtain ⟨hP1, hD1⟩ := hB
  rw [ht] at hP1
  obtain ⟨hP, hD⟩ := va_join (wr := wr) (w1 := w1) hP hD isC isR hC hRr hn hdis hk1 hFc hP1 hD1
  subst hw
  exact k H1 locs ls hl (P_map hP pm hp) (hD.sub pm hpn hp) hS
theorem v_callVl (C : Cx p s m args c cc nL own D A cI cJ) {r : Int64} (hM : Ctl l D cI cJ y bytes maxL ret f n (.ref a :: As) wc w1 r) (cw : CWv y bytes maxL ret C2 np) {T2 : u_T} {N2 ci : Nat} {fs : List Value} (q0 : Nat) (hrc : wc[q0]? = some (a, .inr (ci, fs))) (hcl : vwCl[ci]? = some (C2, T2, N2)) (hlk : Cond.methodLink own idx y ∈ TB) (hd : decode cc pc = .ok (.invokevirtual idx, 3)) (hnp : As.length = np) (hR : f + 1 ≤ R.frames ∧ 8 + (maxL + 11) + n ≤ R.locals) (hst : (st.map fun v => v.category).sum ≤ 8) (hcs : cells ≤ R.cells ∧ slots ≤ R.slots) (hpl : Pl ws wc wr w1 ws' isC isR pm) (k : V p l e R s m args below meth c nL D A cells slots Q (pc + 3) lv (.long r :: st) ws') : V p l e R s m args below meth c nL D A cells slots Q pc lv (As.reverse ++ .ref a :: st) ws := fun H locs ls hl hP hD hS => by
  obtain ⟨i1, i2, i3, i4, i5, i6, i7, i8⟩ := cw
  exact v_afterl C hpl hl hP hD hS (va_runV (As := As) (rest := st) ⟨C.1, C.2.1, C.2.2.1, C.2.2.2.1, C.2.2.2.2.1⟩ (hM H.size) (C := C2) ⟨callB_of np C.2.2.2.2.1 (tb_cons i4) rfl rfl rfl (by rw [i5]; exact C.2.2.2.2.1 _ i3) (C.2.2.2.2.1 _ hlk) ⟨i6, i7, i8⟩ hR, C.2.2.2.2.1 _ i1, C.2.2.2.2.1 _ i2⟩ ⟨Pre.blind, va_recv C.2.2.2.2.2.1.1 (P_map hP isC hpl.1) hcl hrc, fun U hU hW => ⟨rfl, by rw [hU], by rw [hU]; exact P_map hP isC hpl.1, C.2.2.2.2.2.1.warm hW, (hD.sub isC hpl.2.1 hpl.1).weaken (fun _ _ _ _ => trivial)⟩⟩ rfl hnp hl.1 rfl (lv_room hst) hd ⟨hcs.1, hcs.2⟩) k
theorem v_callNl (C : Cx p s m args c cc nL own D A cI cJ) {r : Int64} (hM : Ctl l D cI cJ y bytes maxL ret f n (.ref a :: As) wc w1 r) (cw : CWv y bytes maxL ret C2 np) {T2 : u_T} {N2 ci : Nat} {fs : List Value} (q0 : Nat) (hrc : wc[q0]? = some (a, .inr (ci, fs))) (hcl : vwCl[ci]? = some (C2, T2, N2)) (hlk : Cond.methodLinkNest own idx y host ∈ NWL) (hd : decode cc pc = .ok (.invokevirtual idx, 3)) (hnp : As.length = np) (hR : f + 1 ≤ R.frames ∧ 8 + (maxL + 11) + n ≤ R.locals) (hst : (st.map fun v => v.category).sum ≤ 8) (hcs : cells ≤ R.cells ∧ slots ≤ R.slots) (hpl : Pl ws wc wr w1 ws' isC isR pm) (k : V p l e R s m args below meth c nL D A cells slots Q (pc + 3) lv (.long r :: st) ws') : V p l e R s m args below meth c nL D A cells slots Q pc lv (As.reverse ++ .ref a :: st) ws := fun H locs ls hl hP hD hS => by
  obtain ⟨i1, i2, i3, i4, i5, i6, i7, i8⟩ := cw
  exact v_afterl C hpl hl hP hD hS (va_runVN (As := As) (rest := st) ⟨C.1, C.2.1, C.2.2.1, C.2.2.2.1, C.2.2.2.2.1⟩ (hM H.size) (C := C2) ⟨va_cnB (host := host) np C.2.2.2.2.1 (tb_cons i4) rfl rfl rfl (C.2.2.2.2.2.1.2 _ hlk) (by rw [i5]; exact C.2.2.2.2.1 _ i3) ⟨i6, i7, i8⟩ hR, C.2.2.2.2.1 _ i1, C.2.2.2.2.1 _ i2⟩ ⟨Pre.blind, va_recv C.2.2.2.2.2.1.1 (P_map hP isC hpl.1) hcl hrc, fun U hU hW => ⟨rfl, by rw [hU], by rw [hU]; exact P_map hP isC hpl.1, C.2.2.2.2.2.1.warm hW, (hD.sub isC hpl.2.1 hpl.1).weaken (fun _ _ _ _ => trivial)⟩⟩ rfl hnp hl.1 rfl (lv_room hst) hd ⟨hcs.1, hcs.2⟩) k
theorem v_callSl (C : Cx p s m args c cc nL own D A cI cJ) {r : Int64} (hM : Ctl l D cI cJ y bytes maxL ret f n As wc w1 r) (cw : CWs y bytes maxL ret np) (hlk : Cond.methodLink own idx y ∈ TB) (hd : decode cc pc = .ok (.invokestatic idx, 3)) (hnp : As.length = np) (hR : f + 1 ≤ R.frames ∧ 8 + (maxL + 11) + n ≤ R.locals) (hst : (st.map fun v => v.category).sum ≤ 8) (hcs : cells ≤ R.cells ∧ slots ≤ R.slots) (hpl : Pl ws wc wr w1 ws' isC isR pm) (k : V p l e R s m args below meth c nL D A cells slots Q (pc + 3) lv (.long r :: st) ws') : V p l e R s m args below meth c nL D A cells slots Q pc lv (As.reverse ++ st) ws := fun H locs ls hl hP hD hS => by
  obtain ⟨i1, i3, i4, i6, i7, i8⟩ := cw
  exact v_afterl C hpl hl hP hD hS (va_runS (As := As) (rest := st) ⟨C.1, C.2.1, C.2.2.1, C.2.2.2.1, C.2.2.2.2.1⟩ (hM H.size) ⟨callB_of np C.2.2.2.2.1 (tb_cons i4) rfl rfl rfl (C.2.2.2.2.1 _ i3) (C.2.2.2.2.1 _ hlk) ⟨i6, i7, i8⟩ hR, C.2.2.2.2.1 _ i1⟩ ⟨Pre.blind, fun U hU hW => ⟨rfl, by rw [hU], by rw [hU]; exact P_map hP isC hpl.1, C.2.2.2.2.2.1.warm hW, (hD.sub isC hpl.2.1 hpl.1).weaken (fun _ _ _ _ => trivial)⟩⟩ rfl hnp hl.1 rfl (lv_room hst) hd ⟨hcs.1, hcs.2⟩) k
theorem v_callSNl (C : Cx p s m args c cc nL own D A cI cJ) {r : Int64} (hM : Ctl l D cI cJ y bytes maxL ret f n As wc w1 r) (cw : CWs y bytes maxL ret np) (hlk : Cond.methodLinkNest own idx y host ∈ NWL) (hd : decode cc pc = .ok (.invokestatic idx, 3)) (hnp : As.length = np) (hR : f + 1 ≤ R.frames ∧ 8 + (maxL + 11) + n ≤ R.locals) (hst : (st.map fun v => v.category).sum ≤ 8) (hcs : cells ≤ R.cells ∧ slots ≤ R.slots) (hpl : Pl ws wc wr w1 ws' isC isR pm) (k : V p l e R s m args below meth c nL D A cells slots Q (pc + 3) lv (.long r :: st) ws') : V p l e R s m args below meth c nL D A cells slots Q pc lv (As.reverse ++ st) ws := fun H locs ls hl hP hD hS => by
  obtain ⟨i1, i3, i4, i6, i7, i8⟩ := cw
  exact v_afterl C hpl hl hP hD hS (va_runSN (As := As) (rest := st) ⟨C.1, C.2.1, C.2.2.1, C.2.2.2.1, C.2.2.2.2.1⟩ (hM H.size) ⟨va_cnB (host := host) np C.2.2.2.2.1 (tb_cons i4) rfl rfl rfl (C.2.2.2.2.2.1.2 _ hlk) (C.2.2.2.2.1 _ i3) ⟨i6, i7, i8⟩ hR, C.2.2.2.2.1 _ i1, trivial⟩ ⟨Pre.blind, fun U hU hW => ⟨rfl, by rw [hU], by rw [hU]; exact P_map hP isC hpl.1, C.2.2.2.2.2.1.warm hW, (hD.sub isC hpl.2.1 hpl.1).weaken (fun _ _ _ _ => trivial)⟩⟩ rfl hnp hl.1 rfl (lv_room hst) hd ⟨hcs.1, hcs.2⟩) k
theorem v_afterf (C : Cx p s m args c cc nL own D A cI cJ) {r : UInt32} {st0 : List Value} {av : List Value} {H : Heap} {locs : List Loc} {ls : Array Slot} (hpl : Pl ws wc wr w1 ws' isC isR pm) (hl : lv_has ls nL lv) (hP : va_P D vwCl ws H) (hD : va_D A ws) (hS : va_S A s.heap H locs)
    (hr : va_Run p l e R s m args below meth c H locs cells slots 0 0 (F0 m pc ls st0) st (va_Qf (fun (r' : UInt32) (_ : Unit) => r' = r) (Wd D (va_A wc H.size) w1) (va_A wc H.size) av.toArray) (va_A wc H.size)) (k : V p l e R s m args below meth c nL D A cells slots Q (pc + 3) lv (.float r :: st) ws') : W p l e R s m args below meth c H locs cells slots Q (F0 m pc ls st0) := by
  obtain ⟨hC, -, hRr, hn, hdis, hp, hpn⟩ := hpl
  have hFc := va_free (wc := wc) hD hS C.2.2.2.2.2.2 isC hC
  refine va_callf hr hS (fun q _ h => hFc q h) hFc (fun r' u t H1 locs ht hvm hw hB hz1 hk1 hS => ?_)
  obtain ⟨hP1, hD1⟩ := hB
  rw [ht] at hP1
  obtain ⟨hP, hD⟩ := va_join (wr := wr) (w1 := w1) hP hD isC isR hC hRr hn hdis hk1 hFc hP1 hD1
  subst hw
  exact k H1 locs ls hl (P_map hP pm hp) (hD.sub pm hpn hp) hS
theorem v_callVf (C : Cx p s m args c cc nL own D A cI cJ) {r : UInt32} (hM : Ctf l D cI cJ y bytes maxL ret f n (.ref a :: As) wc w1 r) (cw : CWv y bytes maxL ret C2 np) {T2 : u_T} {N2 ci : Nat} {fs : List Value} (q0 : Nat) (hrc : wc[q0]? = some (a, .inr (ci, fs))) (hcl : vwCl[ci]? = some (C2, T2, N2)) (hlk : Cond.methodLink own idx y ∈ TB) (hd : decode cc pc = .ok (.invokevirtual idx, 3)) (hnp : As.length = np) (hR : f + 1 ≤ R.frames ∧ 8 + (maxL + 11) + n ≤ R.locals) (hst : (st.map fun v => v.category).sum ≤ 8) (hcs : cells ≤ R.cells ∧ slots ≤ R.slots) (hpl : Pl ws wc wr w1 ws' isC isR pm) (k : V p l e R s m args below meth c nL D A cells slots Q (pc + 3) lv (.float r :: st) ws') : V p l e R s m args below meth c nL D A cells slots Q pc lv (As.reverse ++ .ref a :: st) ws := fun H locs ls hl hP hD hS => by
  obtain ⟨i1, i2, i3, i4, i5, i6, i7, i8⟩ := cw
  exact v_afterf C hpl hl hP hD hS (va_runV (As := As) (rest := st) ⟨C.1, C.2.1, C.2.2.1, C.2.2.2.1, C.2.2.2.2.1⟩ (hM H.size) (C := C2) ⟨callB_of np C.2.2.2.2.1 (tb_cons i4) rfl rfl rfl (by rw [i5]; exact C.2.2.2.2.1 _ i3) (C.2.2.2.2.1 _ hlk) ⟨i6, i7, i8⟩ hR, C.2.2.2.2.1 _ i1, C.2.2.2.2.1 _ i2⟩ ⟨Pre.blind, va_recv C.2.2.2.2.2.1.1 (P_map hP isC hpl.1) hcl hrc, fun U hU hW => ⟨rfl, by rw [hU], by rw [hU]; exact P_map hP isC hpl.1, C.2.2.2.2.2.1.warm hW, (hD.sub isC hpl.2.1 hpl.1).weaken (fun _ _ _ _ => trivial)⟩⟩ rfl hnp hl.1 rfl (lv_room hst) hd ⟨hcs.1, hcs.2⟩) k
theorem v_callNf (C : Cx p s m args c cc nL own D A cI cJ) {r : UInt32} (hM : Ctf l D cI cJ y bytes maxL ret f n (.ref a :: As) wc w1 r) (cw : CWv y bytes maxL ret C2 np) {T2 : u_T} {N2 ci : Nat} {fs : List Value} (q0 : Nat) (hrc : wc[q0]? = some (a, .inr (ci, fs))) (hcl : vwCl[ci]? = some (C2, T2, N2)) (hlk : Cond.methodLinkNest own idx y host ∈ NWL) (hd : decode cc pc = .ok (.invokevirtual idx, 3)) (hnp : As.length = np) (hR : f + 1 ≤ R.frames ∧ 8 + (maxL + 11) + n ≤ R.locals) (hst : (st.map fun v => v.category).sum ≤ 8) (hcs : cells ≤ R.cells ∧ slots ≤ R.slots) (hpl : Pl ws wc wr w1 ws' isC isR pm) (k : V p l e R s m args below meth c nL D A cells slots Q (pc + 3) lv (.float r :: st) ws') : V p l e R s m args below meth c nL D A cells slots Q pc lv (As.reverse ++ .ref a :: st) ws := fun H locs ls hl hP hD hS => by
  obtain ⟨i1, i2, i3, i4, i5, i6, i7, i8⟩ := cw
  exact v_afterf C hpl hl hP hD hS (va_runVN (As := As) (rest := st) ⟨C.1, C.2.1, C.2.2.1, C.2.2.2.1, C.2.2.2.2.1⟩ (hM H.size) (C := C2) ⟨va_cnB (host := host) np C.2.2.2.2.1 (tb_cons i4) rfl rfl rfl (C.2.2.2.2.2.1.2 _ hlk) (by rw [i5]; exact C.2.2.2.2.1 _ i3) ⟨i6, i7, i8⟩ hR, C.2.2.2.2.1 _ i1, C.2.2.2.2.1 _ i2⟩ ⟨Pre.blind, va_recv C.2.2.2.2.2.1.1 (P_map hP isC hpl.1) hcl hrc, fun U hU hW => ⟨rfl, by rw [hU], by rw [hU]; exact P_map hP isC hpl.1, C.2.2.2.2.2.1.warm hW, (hD.sub isC hpl.2.1 hpl.1).weaken (fun _ _ _ _ => trivial)⟩⟩ rfl hnp hl.1 rfl (lv_room hst) hd ⟨hcs.1, hcs.2⟩) k
theorem v_callSf (C : Cx p s m args c cc nL own D A cI cJ) {r : UInt32} (hM : Ctf l D cI cJ y bytes maxL ret f n As wc w1 r) (cw : CWs y bytes maxL ret np) (hlk : Cond.methodLink own idx y ∈ TB) (hd : decode cc pc = .ok (.invokestatic idx, 3)) (hnp : As.length = np) (hR : f + 1 ≤ R.frames ∧ 8 + (maxL + 11) + n ≤ R.locals) (hst : (st.map fun v => v.category).sum ≤ 8) (hcs : cells ≤ R.cells ∧ slots ≤ R.slots) (hpl : Pl ws wc wr w1 ws' isC isR pm) (k : V p l e R s m args below meth c nL D A cells slots Q (pc + 3) lv (.float r :: st) ws') : V p l e R s m args below meth c nL D A cells slots Q pc lv (As.reverse ++ st) ws := fun H locs ls hl hP hD hS => by
  obtain ⟨i1, i3, i4, i6, i7, i8⟩ := cw
  exact v_afterf C hpl hl hP hD hS (va_runS (As := As) (rest := st) ⟨C.1, C.2.1, C.2.2.1, C.2.2.2.1, C.2.2.2.2.1⟩ (hM H.size) ⟨callB_of np C.2.2.2.2.1 (tb_cons i4) rfl rfl rfl (C.2.2.2.2.1 _ i3) (C.2.2.2.2.1 _ hlk) ⟨i6, i7, i8⟩ hR, C.2.2.2.2.1 _ i1⟩ ⟨Pre.blind, fun U hU hW => ⟨rfl, by rw [hU], by rw [hU]; exact P_map hP isC hpl.1, C.2.2.2.2.2.1.warm hW, (hD.sub isC hpl.2.1 hpl.1).weaken (fun _ _ _ _ => trivial)⟩⟩ rfl hnp hl.1 rfl (lv_room hst) hd ⟨hcs.1, hcs.2⟩) k
theorem v_callSNf (C : Cx p s m args c cc nL own D A cI cJ) {r : UInt32} (hM : Ctf l D cI cJ y bytes maxL ret f n As wc w1 r) (cw : CWs y bytes maxL ret np) (hlk : Cond.methodLinkNest own idx y host ∈ NWL) (hd : decode cc pc = .ok (.invokestatic idx, 3)) (hnp : As.length = np) (hR : f + 1 ≤ R.frames ∧ 8 + (maxL + 11) + n ≤ R.locals) (hst : (st.map fun v => v.category).sum ≤ 8) (hcs : cells ≤ R.cells ∧ slots ≤ R.slots) (hpl : Pl ws wc wr w1 ws' isC isR pm) (k : V p l e R s m args below meth c nL D A cells slots Q (pc + 3) lv (.float r :: st) ws') : V p l e R s m args below meth c nL D A cells slots Q pc lv (As.reverse ++ st) ws := fun H locs ls hl hP hD hS => by
  obtain ⟨i1, i3, i4, i6, i7, i8⟩ := cw
  exact v_afterf C hpl hl hP hD hS (va_runSN (As := As) (rest := st) ⟨C.1, C.2.1, C.2.2.1, C.2.2.2.1, C.2.2.2.2.1⟩ (hM H.size) ⟨va_cnB (host := host) np C.2.2.2.2.1 (tb_cons i4) rfl rfl rfl (C.2.2.2.2.2.1.2 _ hlk) (C.2.2.2.2.1 _ i3) ⟨i6, i7, i8⟩ hR, C.2.2.2.2.1 _ i1, trivial⟩ ⟨Pre.blind, fun U hU hW => ⟨rfl, by rw [hU], by rw [hU]; exact P_map hP isC hpl.1, C.2.2.2.2.2.1.warm hW, (hD.sub isC hpl.2.1 hpl.1).weaken (fun _ _ _ _ => trivial)⟩⟩ rfl hnp hl.1 rfl (lv_room hst) hd ⟨hcs.1, hcs.2⟩) k
theorem v_afterv (C : Cx p s m args c cc nL own D A cI cJ) {st0 : List Value} {av : List Value} {H : Heap} {locs : List Loc} {ls : Array Slot} (hpl : Pl ws wc wr w1 ws' isC isR pm) (hl : lv_has ls nL lv) (hP : va_P D vwCl ws H) (hD : va_D A ws) (hS : va_S A s.heap H locs)
    (hr : va_Run p l e R s m args below meth c H locs cells slots 0 0 (F0 m pc ls st0) st (va_Qv (fun _ : Unit => True) (Wd D (va_A wc H.size) w1) (va_A wc H.size) av.toArray) (va_A wc H.size)) (k : V p l e R s m args below meth c nL D A cells slots Q (pc + 3) lv st ws') : W p l e R s m args below meth c H locs cells slots Q (F0 m pc ls st0) := by
  obtain ⟨hC, -, hRr, hn, hdis, hp, hpn⟩ := hpl
  have hFc := va_free (wc := wc) hD hS C.2.2.2.2.2.2 isC hC
  refine va_callv hr hS (fun q _ h => hFc q h) hFc (fun u t H1 locs ht hvm hw hB hz1 hk1 hS => ?_)
  obtain ⟨hP1, hD1⟩ := hB
  rw [ht] at hP1
  obtain ⟨hP, hD⟩ := va_join (wr := wr) (w1 := w1) hP hD isC isR hC hRr hn hdis hk1 hFc hP1 hD1
  exact k H1 locs ls hl (P_map hP pm hp) (hD.sub pm hpn hp) hS
theorem v_callVv (C : Cx p s m args c cc nL own D A cI cJ) (hM : Ctv l D cI cJ y bytes maxL ret f n (.ref a :: As) wc w1) (cw : CWv y bytes maxL ret C2 np) {T2 : u_T} {N2 ci : Nat} {fs : List Value} (q0 : Nat) (hrc : wc[q0]? = some (a, .inr (ci, fs))) (hcl : vwCl[ci]? = some (C2, T2, N2)) (hlk : Cond.methodLink own idx y ∈ TB) (hd : decode cc pc = .ok (.invokevirtual idx, 3)) (hnp : As.length = np) (hR : f + 1 ≤ R.frames ∧ 8 + (maxL + 11) + n ≤ R.locals) (hst : (st.map fun v => v.category).sum ≤ 8) (hcs : cells ≤ R.cells ∧ slots ≤ R.slots) (hpl : Pl ws wc wr w1 ws' isC isR pm) (k : V p l e R s m args below meth c nL D A cells slots Q (pc + 3) lv st ws') : V p l e R s m args below meth c nL D A cells slots Q pc lv (As.reverse ++ .ref a :: st) ws := fun H locs ls hl hP hD hS => by
  obtain ⟨i1, i2, i3, i4, i5, i6, i7, i8⟩ := cw
  exact v_afterv C hpl hl hP hD hS (va_runV (As := As) (rest := st) ⟨C.1, C.2.1, C.2.2.1, C.2.2.2.1, C.2.2.2.2.1⟩ (hM H.size) (C := C2) ⟨callB_of np C.2.2.2.2.1 (tb_cons i4) rfl rfl rfl (by rw [i5]; exact C.2.2.2.2.1 _ i3) (C.2.2.2.2.1 _ hlk) ⟨i6, i7, i8⟩ hR, C.2.2.2.2.1 _ i1, C.2.2.2.2.1 _ i2⟩ ⟨Pre.blind, va_recv C.2.2.2.2.2.1.1 (P_map hP isC hpl.1) hcl hrc, fun U hU hW => ⟨rfl, by rw [hU], by rw [hU]; exact P_map hP isC hpl.1, C.2.2.2.2.2.1.warm hW, (hD.sub isC hpl.2.1 hpl.1).weaken (fun _ _ _ _ => trivial)⟩⟩ rfl hnp hl.1 rfl (lv_room hst) hd ⟨hcs.1, hcs.2⟩) k
theorem v_callNv (C : Cx p s m args c cc nL own D A cI cJ) (hM : Ctv l D cI cJ y bytes maxL ret f n (.ref a :: As) wc w1) (cw : CWv y bytes maxL ret C2 np) {T2 : u_T} {N2 ci : Nat} {fs : List Value} (q0 : Nat) (hrc : wc[q0]? = some (a, .inr (ci, fs))) (hcl : vwCl[ci]? = some (C2, T2, N2)) (hlk : Cond.methodLinkNest own idx y host ∈ NWL) (hd : decode cc pc = .ok (.invokevirtual idx, 3)) (hnp : As.length = np) (hR : f + 1 ≤ R.frames ∧ 8 + (maxL + 11) + n ≤ R.locals) (hst : (st.map fun v => v.category).sum ≤ 8) (hcs : cells ≤ R.cells ∧ slots ≤ R.slots) (hpl : Pl ws wc wr w1 ws' isC isR pm) (k : V p l e R s m args below meth c nL D A cells slots Q (pc + 3) lv st ws') : V p l e R s m args below meth c nL D A cells slots Q pc lv (As.reverse ++ .ref a :: st) ws := fun H locs ls hl hP hD hS => by
  obtain ⟨i1, i2, i3, i4, i5, i6, i7, i8⟩ := cw
  exact v_afterv C hpl hl hP hD hS (va_runVN (As := As) (rest := st) ⟨C.1, C.2.1, C.2.2.1, C.2.2.2.1, C.2.2.2.2.1⟩ (hM H.size) (C := C2) ⟨va_cnB (host := host) np C.2.2.2.2.1 (tb_cons i4) rfl rfl rfl (C.2.2.2.2.2.1.2 _ hlk) (by rw [i5]; exact C.2.2.2.2.1 _ i3) ⟨i6, i7, i8⟩ hR, C.2.2.2.2.1 _ i1, C.2.2.2.2.1 _ i2⟩ ⟨Pre.blind, va_recv C.2.2.2.2.2.1.1 (P_map hP isC hpl.1) hcl hrc, fun U hU hW => ⟨rfl, by rw [hU], by rw [hU]; exact P_map hP isC hpl.1, C.2.2.2.2.2.1.warm hW, (hD.sub isC hpl.2.1 hpl.1).weaken (fun _ _ _ _ => trivial)⟩⟩ rfl hnp hl.1 rfl (lv_room hst) hd ⟨hcs.1, hcs.2⟩) k
theorem v_callSv (C : Cx p s m args c cc nL own D A cI cJ) (hM : Ctv l D cI cJ y bytes maxL ret f n As wc w1) (cw : CWs y bytes maxL ret np) (hlk : Cond.methodLink own idx y ∈ TB) (hd : decode cc pc = .ok (.invokestatic idx, 3)) (hnp : As.length = np) (hR : f + 1 ≤ R.frames ∧ 8 + (maxL + 11) + n ≤ R.locals) (hst : (st.map fun v => v.category).sum ≤ 8) (hcs : cells ≤ R.cells ∧ slots ≤ R.slots) (hpl : Pl ws wc wr w1 ws' isC isR pm) (k : V p l e R s m args below meth c nL D A cells slots Q (pc + 3) lv st ws') : V p l e R s m args below meth c nL D A cells slots Q pc lv (As.reverse ++ st) ws := fun H locs ls hl hP hD hS => by
  obtain ⟨i1, i3, i4, i6, i7, i8⟩ := cw
  exact v_afterv C hpl hl hP hD hS (va_runS (As := As) (rest := st) ⟨C.1, C.2.1, C.2.2.1, C.2.2.2.1, C.2.2.2.2.1⟩ (hM H.size) ⟨callB_of np C.2.2.2.2.1 (tb_cons i4) rfl rfl rfl (C.2.2.2.2.1 _ i3) (C.2.2.2.2.1 _ hlk) ⟨i6, i7, i8⟩ hR, C.2.2.2.2.1 _ i1⟩ ⟨Pre.blind, fun U hU hW => ⟨rfl, by rw [hU], by rw [hU]; exact P_map hP isC hpl.1, C.2.2.2.2.2.1.warm hW, (hD.sub isC hpl.2.1 hpl.1).weaken (fun _ _ _ _ => trivial)⟩⟩ rfl hnp hl.1 rfl (lv_room hst) hd ⟨hcs.1, hcs.2⟩) k
theorem v_callSNv (C : Cx p s m args c cc nL own D A cI cJ) (hM : Ctv l D cI cJ y bytes maxL ret f n As wc w1) (cw : CWs y bytes maxL ret np) (hlk : Cond.methodLinkNest own idx y host ∈ NWL) (hd : decode cc pc = .ok (.invokestatic idx, 3)) (hnp : As.length = np) (hR : f + 1 ≤ R.frames ∧ 8 + (maxL + 11) + n ≤ R.locals) (hst : (st.map fun v => v.category).sum ≤ 8) (hcs : cells ≤ R.cells ∧ slots ≤ R.slots) (hpl : Pl ws wc wr w1 ws' isC isR pm) (k : V p l e R s m args below meth c nL D A cells slots Q (pc + 3) lv st ws') : V p l e R s m args below meth c nL D A cells slots Q pc lv (As.reverse ++ st) ws := fun H locs ls hl hP hD hS => by
  obtain ⟨i1, i3, i4, i6, i7, i8⟩ := cw
  exact v_afterv C hpl hl hP hD hS (va_runSN (As := As) (rest := st) ⟨C.1, C.2.1, C.2.2.1, C.2.2.2.1, C.2.2.2.2.1⟩ (hM H.size) ⟨va_cnB (host := host) np C.2.2.2.2.1 (tb_cons i4) rfl rfl rfl (C.2.2.2.2.2.1.2 _ hlk) (C.2.2.2.2.1 _ i3) ⟨i6, i7, i8⟩ hR, C.2.2.2.2.1 _ i1, trivial⟩ ⟨Pre.blind, fun U hU hW => ⟨rfl, by rw [hU], by rw [hU]; exact P_map hP isC hpl.1, C.2.2.2.2.2.1.warm hW, (hD.sub isC hpl.2.1 hpl.1).weaken (fun _ _ _ _ => trivial)⟩⟩ rfl hnp hl.1 rfl (lv_room hst) hd ⟨hcs.1, hcs.2⟩) k
end
theorem mk_i {l : Launch} {D : va_G} {cI cJ : ClassId} {y : MethodName} {bytes : ByteArray} {maxL f n : Nat} {av : List Value} {wc w1 : va_W} {r : Int32} {own : String} (lv0 : List (Nat × Value)) (hy : plainName y.cls = true) (ho : y.cls = own) (ha : (lg_sl av).length ≤ maxL) (hlv : lv_args 0 av = lv0)
    (body : ∀ (p : Program) (e : Env) (s : State) (m : MethodId) (args : Array Value) (below : List Frame) (meth : Method) (c : Code) (A : Nat → Prop) (Q : State → Prop), Cx p s m args c bytes maxL own D A cI cJ → (∀ (pc : Nat) (lv : List (Nat × Value)), decode bytes pc = .ok (.ireturn, 1) → V p l e (rmO f n) s m args below meth c maxL D A 0 0 Q pc lv [.int r] w1) → V p l e (rmO f n) s m args below meth c maxL D A 0 0 Q 0 lv0 [] wc) : Cti l D cI cJ y bytes maxL (some .int) f n av wc w1 r := by
  intro sz
  refine Met.ofW (cc := bytes) (maxL := maxL) (ret := (some .int)) hy rfl ?_
  intro p e s m args below meth c s₁ B hml hv
  obtain ⟨rfl, hsz, hP, hK, hD0⟩ := hv
  subst hsz
  subst ho
  have hts := atoms_spec (ws := Cond.code y bytes maxL (some .int) :: TB) B.pre
  have hlocks := B.notSynchronized
  have hD := hD0.self (sz := s.heap.size)
  have C : Cx p s m av.toArray c bytes maxL y.cls D (va_A wc s.heap.size) cI cJ := ⟨B.exec, B.bytes, hml, findClass_of_methodNamed B.named, fun w h => hts w (List.mem_cons_of_mem _ h), hK, fun q h => Or.inr h⟩
  have hl := lv_entry av (n := maxL) ha
  rw [lg_entry_eq]
  rw [hlv] at hl
  exact body p e s m _ below meth c _ _ C (fun pc lv hd H locs ls hl hP hD hS => W.iret C.1 C.2.1 B.returns (fun t ht hW => ⟨⟨r, (), rfl, rfl, by rw [ht]; exact hP, hD⟩, hS.F ht⟩) hS.2.2 hd) s.heap [] _ hl hP hD va_S.rf
theorem mk_l {l : Launch} {D : va_G} {cI cJ : ClassId} {y : MethodName} {bytes : ByteArray} {maxL f n : Nat} {av : List Value} {wc w1 : va_W} {r : Int64} {own : String} (lv0 : List (Nat × Value)) (hy : plainName y.cls = true) (ho : y.cls = own) (ha : (lg_sl av).length ≤ maxL) (hlv : lv_args 0 av = lv0)
    (body : ∀ (p : Program) (e : Env) (s : State) (m : MethodId) (args : Array Value) (below : List Frame) (meth : Method) (c : Code) (A : Nat → Prop) (Q : State → Prop), Cx p s m args c bytes maxL own D A cI cJ → (∀ (pc : Nat) (lv : List (Nat × Value)), decode bytes pc = .ok (.lreturn, 1) → V p l e (rmO f n) s m args below meth c maxL D A 0 0 Q pc lv [.long r] w1) → V p l e (rmO f n) s m args below meth c maxL D A 0 0 Q 0 lv0 [] wc) : Ctl l D cI cJ y bytes maxL (some .long) f n av wc w1 r := by
  intro sz
  refine Met.ofW (cc := bytes) (maxL := maxL) (ret := (some .long)) hy rfl ?_
  intro p e s m args below meth c s₁ B hml hv
  obtain ⟨rfl, hsz, hP, hK, hD0⟩ := hv
  subst hsz
  subst ho
  have hts := atoms_spec (ws := Cond.code y bytes maxL (some .long) :: TB) B.pre
  have hlocks := B.notSynchronized
  have hD := hD0.self (sz := s.heap.size)
  have C : Cx p s m av.toArray c bytes maxL y.cls D (va_A wc s.heap.size) cI cJ := ⟨B.exec, B.bytes, hml, findClass_of_methodNamed B.named, fun w h => hts w (List.mem_cons_of_mem _ h), hK, fun q h => Or.inr h⟩
  have hl := lv_entry av (n := maxL) ha
  rw [lg_entry_eq]
  rw [hlv] at hl
  exact body p e s m _ below meth c _ _ C (fun pc lv hd H locs ls hl hP hD hS => W.lret C.1 C.2.1 B.returns (fun t ht hW => ⟨⟨r, (), rfl, rfl, by rw [ht]; exact hP, hD⟩, hS.F ht⟩) hS.2.2 hd) s.heap [] _ hl hP hD va_S.rf
theorem mk_f {l : Launch} {D : va_G} {cI cJ : ClassId} {y : MethodName} {bytes : ByteArray} {maxL f n : Nat} {av : List Value} {wc w1 : va_W} {r : UInt32} {own : String} (lv0 : List (Nat × Value)) (hy : plainName y.cls = true) (ho : y.cls = own) (ha : (lg_sl av).length ≤ maxL) (hlv : lv_args 0 av = lv0)
    (body : ∀ (p : Program) (e : Env) (s : State) (m : MethodId) (args : Array Value) (below : List Frame) (meth : Method) (c : Code) (A : Nat → Prop) (Q : State → Prop), Cx p s m args c bytes maxL own D A cI cJ → (∀ (pc : Nat) (lv : List (Nat × Value)), decode bytes pc = .ok (.freturn, 1) → V p l e (rmO f n) s m args below meth c maxL D A 0 0 Q pc lv [.float r] w1) → V p l e (rmO f n) s m args below meth c maxL D A 0 0 Q 0 lv0 [] wc) : Ctf l D cI cJ y bytes maxL (some .float) f n av wc w1 r := by
  intro sz
  refine Met.ofW (cc := bytes) (maxL := maxL) (ret := (some .float)) hy rfl ?_
  intro p e s m args below meth c s₁ B hml hv
  obtain ⟨rfl, hsz, hP, hK, hD0⟩ := hv
  subst hsz
  subst ho
  have hts := atoms_spec (ws := Cond.code y bytes maxL (some .float) :: TB) B.pre
  have hlocks := B.notSynchronized
  have hD := hD0.self (sz := s.heap.size)
  have C : Cx p s m av.toArray c bytes maxL y.cls D (va_A wc s.heap.size) cI cJ := ⟨B.exec, B.bytes, hml, findClass_of_methodNamed B.named, fun w h => hts w (List.mem_cons_of_mem _ h), hK, fun q h => Or.inr h⟩
  have hl := lv_entry av (n := maxL) ha
  rw [lg_entry_eq]
  rw [hlv] at hl
  exact body p e s m _ below meth c _ _ C (fun pc lv hd H locs ls hl hP hD hS => W.fret C.1 C.2.1 B.returns (fun t ht hW => ⟨⟨r, (), rfl, rfl, by rw [ht]; exact hP, hD⟩, hS.F ht⟩) hS.2.2 hd) s.heap [] _ hl hP hD va_S.rf
theorem mk_v {l : Launch} {D : va_G} {cI cJ : ClassId} {y : MethodName} {bytes : ByteArray} {maxL f n : Nat} {av : List Value} {wc w1 : va_W} {own : String} (lv0 : List (Nat × Value)) (hy : plainName y.cls = true) (ho : y.cls = own) (ha : (lg_sl av).length ≤ maxL) (hlv : lv_args 0 av = lv0)
    (body : ∀ (p : Program) (e : Env) (s : State) (m : MethodId) (args : Array Value) (below : List Frame) (meth : Method) (c : Code) (A : Nat → Prop) (Q : State → Prop), Cx p s m args c bytes maxL own D A cI cJ → (∀ (pc : Nat) (lv : List (Nat × Value)), decode bytes pc = .ok (.return_, 1) → V p l e (rmO f n) s m args below meth c maxL D A 0 0 Q pc lv [] w1) → V p l e (rmO f n) s m args below meth c maxL D A 0 0 Q 0 lv0 [] wc) : Ctv l D cI cJ y bytes maxL none f n av wc w1 := by
  intro sz
  refine Met.ofW (cc := bytes) (maxL := maxL) (ret := none) hy rfl ?_
  intro p e s m args below meth c s₁ B hml hv
  obtain ⟨rfl, hsz, hP, hK, hD0⟩ := hv
  subst hsz
  subst ho
  have hts := atoms_spec (ws := Cond.code y bytes maxL none :: TB) B.pre
  have hlocks := B.notSynchronized
  have hD := hD0.self (sz := s.heap.size)
  have C : Cx p s m av.toArray c bytes maxL y.cls D (va_A wc s.heap.size) cI cJ := ⟨B.exec, B.bytes, hml, findClass_of_methodNamed B.named, fun w h => hts w (List.mem_cons_of_mem _ h), hK, fun q h => Or.inr h⟩
  have hl := lv_entry av (n := maxL) ha
  rw [lg_entry_eq]
  rw [hlv] at hl
  exact body p e s m _ below meth c _ _ C (fun pc lv hd H locs ls hl hP hD hS => W.vret C.1 C.2.1 B.returns (fun t ht hW => ⟨⟨(), rfl, trivial, by rw [ht]; exact hP, hD⟩, hS.F ht⟩) hS.2.2 hd) s.heap [] _ hl hP hD va_S.rf
theorem mk_z {l : Launch} {D : va_G} {cI cJ : ClassId} {y : MethodName} {bytes : ByteArray} {maxL f n : Nat} {av : List Value} {wc w1 : va_W} {r : Int32} {own : String} (lv0 : List (Nat × Value)) (hy : plainName y.cls = true) (ho : y.cls = own) (ha : (lg_sl av).length ≤ maxL) (hlv : lv_args 0 av = lv0)
    (body : ∀ (p : Program) (e : Env) (s : State) (m : MethodId) (args : Array Value) (below : List Frame) (meth : Method) (c : Code) (A : Nat → Prop) (Q : State → Prop), Cx p s m args c bytes maxL own D A cI cJ → (∀ (pc : Nat) (lv : List (Nat × Value)), decode bytes pc = .ok (.ireturn, 1) → (r = 0 ∨ r = 1) → V p l e (rmO f n) s m args below meth c maxL D A 0 0 Q pc lv [.int r] w1) → V p l e (rmO f n) s m args below meth c maxL D A 0 0 Q 0 lv0 [] wc) : Cti l D cI cJ y bytes maxL (some .boolean) f n av wc w1 r := by
  intro sz
  refine Met.ofW (cc := bytes) (maxL := maxL) (ret := (some .boolean)) hy rfl ?_
  intro p e s m args below meth c s₁ B hml hv
  obtain ⟨rfl, hsz, hP, hK, hD0⟩ := hv
  subst hsz
  subst ho
  have hts := atoms_spec (ws := Cond.code y bytes maxL (some .boolean) :: TB) B.pre
  have hlocks := B.notSynchronized
  have hD := hD0.self (sz := s.heap.size)
  have C : Cx p s m av.toArray c bytes maxL y.cls D (va_A wc s.heap.size) cI cJ := ⟨B.exec, B.bytes, hml, findClass_of_methodNamed B.named, fun w h => hts w (List.mem_cons_of_mem _ h), hK, fun q h => Or.inr h⟩
  have hl := lv_entry av (n := maxL) ha
  rw [lg_entry_eq]
  rw [hlv] at hl
  exact body p e s m _ below meth c _ _ C (fun pc lv hd hz H locs ls hl hP hD hS => W.zret C.1 C.2.1 B.returns (show narrow .boolean (.int r) = .int r from by rcases hz with h | h <;> rw [h] <;> rfl) (fun t ht hW => ⟨⟨r, (), rfl, rfl, by rw [ht]; exact hP, hD⟩, hS.F ht⟩) hS.2.2 hd) s.heap [] _ hl hP hD va_S.rf
end
section
/-- a boolean answer looked at -/
def zbl {α : Type} (x : Int32) (k : Option α) : Option α := if x = 0 ∨ x = 1 then k else none
theorem zbl_el {α : Type} {x : Int32} {k : Option α} {o : α} (h : zbl x k = some o) : (x = 0 ∨ x = 1) ∧ k = some o := by
  unfold zbl at h
  by_cases c : x = 0 ∨ x = 1
  · rw [if_pos c] at h; exact ⟨c, h⟩
  · rw [if_neg c] at h; cases h
/-- a float that is a number -/
def fnn {α : Type} (x : UInt32) (k : Option α) : Option α := if x &&& 0x7fffffff ≤ 0x7f800000 then k else none
theorem fnn_el {α : Type} {x : UInt32} {k : Option α} {o : α} (h : fnn x k = some o) : vf_n32 x ∧ k = some o := by
  unfold fnn at h
  by_cases c : x &&& 0x7fffffff ≤ 0x7f800000
  · rw [if_pos c] at h; exact ⟨c, h⟩
  · rw [if_neg c] at h; cases h
section
variable {p : Program} {l : Launch} {e : Env} {R : Room} {s : State} {m : MethodId} {args : Array Value} {below : List Frame} {meth : Method} {c : Code} {cc : ByteArray} {nL : Nat} {own : String} {D : va_G} {A : Nat → Prop} {cI cJ : ClassId} {cells slots : Nat} {Q : State → Prop} {pc : Nat} {lv : List (Nat × Value)} {st : List Value} {ws : va_W}
theorem v_copyl (C : Cx p s m args c cc nL own D A cI cJ) {idx a0 a1 : Nat} {f g : Nat → Int64} (ws' : va_W) (q0 q1 : Nat) (hlk : Cond.methodLink own idx arraycopyName ∈ TB) (hd : decode cc pc = .ok (.invokestatic idx, 3)) (hfr : 1 ≤ R.frames) (hlo : (st.map fun v => v.category).sum + (nativeFrameWords "java/lang/System" "arraycopy" 5 + 11) ≤ R.locals) (h0 : ws[q0]? = some (a0, .inl (cJ, 38, .inr (.inl f)))) (h1 : ws[q1]? = some (a1, .inl (cJ, 38, .inr (.inl g)))) (hw : ws.set q1 (a1, .inl (cJ, 38, .inr (.inl (va_cpy f g 0 0 38)))) = ws')
    (k : V p l e R s m args below meth c nL D A cells slots Q (pc + 3) lv st ws') : V p l e R s m args below meth c nL D A cells slots Q pc lv (.int 38 :: .int 0 :: .ref a1 :: .int 0 :: .ref a0 :: st) ws := fun H locs ls hl hP hD hS => by
  refine va_copyl C.1 C.2.1 (C.2.2.1.trans hl.1.symm) C.2.2.2.1 (C.2.2.2.2.1 _ hlk) (C.2.2.2.2.1 _ m2_132) (C.2.2.2.2.1 _ m2_131) (C.2.2.2.2.1 _ m1_12) C.2.2.2.2.2.1.1 hP hD hS q0 q1 1 1 h0 h1 (ty := .long) rfl rfl rfl (by decide) (by decide) (by decide) (by decide) (by decide) (fun i _ => rfl) hfr hlo hd (fun H1 locs1 hP1 hD1 hS1 => k H1 locs1 ls hl (hw ▸ hP1) (hw ▸ hD1) hS1)
theorem v_mmax (C : Cx p s m args c cc nL own D A cI cJ) {idx : Nat} {x y : Int32} (hlk : Cond.methodLink own idx yJ9_max_7cf53 ∈ TB) (hd : decode cc pc = .ok (.invokestatic idx, 3)) (hfr : 1 ≤ R.frames) (hlo : (st.map fun v => v.category).sum + 13 ≤ R.locals) (hcs : cells ≤ R.cells ∧ slots ≤ R.slots) (k : V p l e R s m args below meth c nL D A cells slots Q (pc + 3) lv (.int (if x < y then y else x) :: st) ws) : V p l e R s m args below meth c nL D A cells slots Q pc lv (.int y :: .int x :: st) ws := fun H locs ls hl hP hD hS =>
  va_mmax C.1 C.2.1 (C.2.2.1.trans hl.1.symm) C.2.2.2.1 (C.2.2.2.2.1 _ hlk) (C.2.2.2.2.1 _ m1_167) (C.2.2.2.2.1 _ m1_14) (C.2.2.2.2.1 _ m1_168) hfr hlo hcs.1 hcs.2 hd (k H locs ls hl hP hD hS)
theorem v_mmin (C : Cx p s m args c cc nL own D A cI cJ) {idx : Nat} {x y : Int32} (hlk : Cond.methodLink own idx yJ9_min_7cf53 ∈ TB) (hd : decode cc pc = .ok (.invokestatic idx, 3)) (hfr : 1 ≤ R.frames) (hlo : (st.map fun v => v.category).sum + 13 ≤ R.locals) (hcs : cells ≤ R.cells ∧ slots ≤ R.slots) (k : V p l e R s m args below meth c nL D A cells slots Q (pc + 3) lv (.int (if y < x then y else x) :: st) ws) : V p l e R s m args below meth c nL D A cells slots Q pc lv (.int y :: .int x :: st) ws := fun H locs ls hl hP hD hS =>
  va_mmin C.1 C.2.1 (C.2.2.1.trans hl.1.symm) C.2.2.2.1 (C.2.2.2.2.1 _ hlk) (C.2.2.2.2.1 _ m3_7) (C.2.2.2.2.1 _ m1_14) (C.2.2.2.2.1 _ m3_8) hfr hlo hcs.1 hcs.2 hd (k H locs ls hl hP hD hS)
theorem v_tsw4 (C : Cx p s m args c cc nL own D A cI cJ) {x : Int32} {α : Type} {f0 f1 f2 f3 g : Option α} {o : α} {t0 t1 t2 t3 td : Nat} {o0 o1 o2 o3 od : Int} {len : Nat} (hd : decode cc pc = .ok (.tableswitch od 0 3 #[o0, o1, o2, o3], len)) (ht : (pc : Int) + o0 = (t0 : Int) ∧ (pc : Int) + o1 = (t1 : Int) ∧ (pc : Int) + o2 = (t2 : Int) ∧ (pc : Int) + o3 = (t3 : Int)) (hdt : (pc : Int) + od = (td : Int)) (h : (if x = 0 then f0 else (if x = 1 then f1 else (if x = 2 then f2 else (if x = 3 then f3 else g)))) = some o) (k0 : f0 = some o → V p l e R s m args below meth c nL D A cells slots Q t0 lv st ws) (k1 : f1 = some o → V p l e R s m args below meth c nL D A cells slots Q t1 lv st ws) (k2 : f2 = some o → V p l e R s m args below meth c nL D A cells slots Q t2 lv st ws) (k3 : f3 = some o → V p l e R s m args below meth c nL D A cells slots Q t3 lv st ws) (kd : g = some o → V p l e R s m args below meth c nL D A cells slots Q td lv st ws) : V p l e R s m args below meth c nL D A cells slots Q pc lv (.int x :: st) ws := fun H locs ls hl hP hD hS => by
  obtain ⟨h0, h1, h2, h3⟩ := ht
  by_cases q0 : x = 0
  · rw [if_pos q0] at h
    subst q0
    exact lv_tableIn C.1 C.2.1 hd (by decide) (by decide) (off := o0) (by first | rfl | decide) h0 (k0 h H locs ls hl hP hD hS)
  rw [if_neg q0] at h
  by_cases q1 : x = 1
  · rw [if_pos q1] at h
    subst q1
    exact lv_tableIn C.1 C.2.1 hd (by decide) (by decide) (off := o1) (by first | rfl | decide) h1 (k1 h H locs ls hl hP hD hS)
  rw [if_neg q1] at h
  by_cases q2 : x = 2
  · rw [if_pos q2] at h
    subst q2
    exact lv_tableIn C.1 C.2.1 hd (by decide) (by decide) (off := o2) (by first | rfl | decide) h2 (k2 h H locs ls hl hP hD hS)
  rw [if_neg q2] at h
  by_cases q3 : x = 3
  · rw [if_pos q3] at h
    subst q3
    exact lv_tableIn C.1 C.2.1 hd (by decide) (by decide) (off := o3) (by first | rfl | decide) h3 (k3 h H locs ls hl hP hD hS)
  rw [if_neg q3] at h
  refine lv_tableOut C.1 C.2.1 hd ?_ hdt (kd h H locs ls hl hP hD hS)
  have ne : ∀ k : Int32, ¬ x = k → ¬ x.toInt = k.toInt := fun k h e => h (Int32.toInt_inj.mp e)
  have e0 := ne 0 q0
  rw [show (0 : Int32).toInt = 0 from by decide] at e0
  have e1 := ne 1 q1
  rw [show (1 : Int32).toInt = 1 from by decide] at e1
  have e2 := ne 2 q2
  rw [show (2 : Int32).toInt = 2 from by decide] at e2
  have e3 := ne 3 q3
  rw [show (3 : Int32).toInt = 3 from by decide] at e3
  omega
theorem v_tsw5 (C : Cx p s m args c cc nL own D A cI cJ) {x : Int32} {α : Type} {f0 f1 f2 f3 f4 g : Option α} {o : α} {t0 t1 t2 t3 t4 td : Nat} {o0 o1 o2 o3 o4 od : Int} {len : Nat} (hd : decode cc pc = .ok (.tableswitch od 0 4 #[o0, o1, o2, o3, o4], len)) (ht : (pc : Int) + o0 = (t0 : Int) ∧ (pc : Int) + o1 = (t1 : Int) ∧ (pc : Int) + o2 = (t2 : Int) ∧ (pc : Int) + o3 = (t3 : Int) ∧ (pc : Int) + o4 = (t4 : Int)) (hdt : (pc : Int) + od = (td : Int)) (h : (if x = 0 then f0 else (if x = 1 then f1 else (if x = 2 then f2 else (if x = 3 then f3 else (if x = 4 then f4 else g))))) = some o) (k0 : f0 = some o → V p l e R s m args below meth c nL D A cells slots Q t0 lv st ws) (k1 : f1 = some o → V p l e R s m args below meth c nL D A cells slots Q t1 lv st ws) (k2 : f2 = some o → V p l e R s m args below meth c nL D A cells slots Q t2 lv st ws) (k3 : f3 = some o → V p l e R s m args below meth c nL D A cells slots Q t3 lv st ws) (k4 : f4 = some o → V p l e R s m args below meth c nL D A cells slots Q t4 lv st ws) (kd : g = some o → V p l e R s m args below meth c nL D A cells slots Q td lv st ws) : V p l e R s m args below meth c nL D A cells slots Q pc lv (.int x :: st) ws := fun H locs ls hl hP hD hS => by
  obtain ⟨h0, h1, h2, h3, h4⟩ := ht
  by_cases q0 : x = 0
  · rw [if_pos q0] at h
    subst q0
    exact lv_tableIn C.1 C.2.1 hd (by decide) (by decide) (off := o0) (by first | rfl | decide) h0 (k0 h H locs ls hl hP hD hS)
  rw [if_neg q0] at h
  by_cases q1 : x = 1
  · rw [if_pos q1] at h
    subst q1
    exact lv_tableIn C.1 C.2.1 hd (by decide) (by decide) (off := o1) (by first | rfl | decide) h1 (k1 h H locs ls hl hP hD hS)
  rw [if_neg q1] at h
  by_cases q2 : x = 2
  · rw [if_pos q2] at h
    subst q2
    exact lv_tableIn C.1 C.2.1 hd (by decide) (by decide) (off := o2) (by first | rfl | decide) h2 (k2 h H locs ls hl hP hD hS)
  rw [if_neg q2] at h
  by_cases q3 : x = 3
  · rw [if_pos q3] at h
    subst q3
    exact lv_tableIn C.1 C.2.1 hd (by decide) (by decide) (off := o3) (by first | rfl | decide) h3 (k3 h H locs ls hl hP hD hS)
  rw [if_neg q3] at h
  by_cases q4 : x = 4
  · rw [if_pos q4] at h
    subst q4
    exact lv_tableIn C.1 C.2.1 hd (by decide) (by decide) (off := o4) (by first | rfl | decide) h4 (k4 h H locs ls hl hP hD hS)
  rw [if_neg q4] at h
  refine lv_tableOut C.1 C.2.1 hd ?_ hdt (kd h H locs ls hl hP hD hS)
  have ne : ∀ k : Int32, ¬ x = k → ¬ x.toInt = k.toInt := fun k h e => h (Int32.toInt_inj.mp e)
  have e0 := ne 0 q0
  rw [show (0 : Int32).toInt = 0 from by decide] at e0
  have e1 := ne 1 q1
  rw [show (1 : Int32).toInt = 1 from by decide] at e1
  have e2 := ne 2 q2
  rw [show (2 : Int32).toInt = 2 from by decide] at e2
  have e3 := ne 3 q3
  rw [show (3 : Int32).toInt = 3 from by decide] at e3
  have e4 := ne 4 q4
  rw [show (4 : Int32).toInt = 4 from by decide] at e4
  omega
theorem v_tsw6 (C : Cx p s m args c cc nL own D A cI cJ) {x : Int32} {α : Type} {f0 f1 f2 f3 f4 f5 g : Option α} {o : α} {t0 t1 t2 t3 t4 t5 td : Nat} {o0 o1 o2 o3 o4 o5 od : Int} {len : Nat} (hd : decode cc pc = .ok (.tableswitch od 0 5 #[o0, o1, o2, o3, o4, o5], len)) (ht : (pc : Int) + o0 = (t0 : Int) ∧ (pc : Int) + o1 = (t1 : Int) ∧ (pc : Int) + o2 = (t2 : Int) ∧ (pc : Int) + o3 = (t3 : Int) ∧ (pc : Int) + o4 = (t4 : Int) ∧ (pc : Int) + o5 = (t5 : Int)) (hdt : (pc : Int) + od = (td : Int)) (h : (if x = 0 then f0 else (if x = 1 then f1 else (if x = 2 then f2 else (if x = 3 then f3 else (if x = 4 then f4 else (if x = 5 then f5 else g)))))) = some o) (k0 : f0 = some o → V p l e R s m args below meth c nL D A cells slots Q t0 lv st ws) (k1 : f1 = some o → V p l e R s m args below meth c nL D A cells slots Q t1 lv st ws) (k2 : f2 = some o → V p l e R s m args below meth c nL D A cells slots Q t2 lv st ws) (k3 : f3 = some o → V p l e R s m args below meth c nL D A cells slots Q t3 lv st ws) (k4 : f4 = some o → V p l e R s m args below meth c nL D A cells slots Q t4 lv st ws) (k5 : f5 = some o → V p l e R s m args below meth c nL D A cells slots Q t5 lv st ws) (kd : g = some o → V p l e R s m args below meth c nL D A cells slots Q td lv st ws) : V p l e R s m args below meth c nL D A cells slots Q pc lv (.int x :: st) ws := fun H locs ls hl hP hD hS => by
  obtain ⟨h0, h1, h2, h3, h4, h5⟩ := ht
  by_cases q0 : x = 0
  · rw [if_pos q0] at h
    subst q0
    exact lv_tableIn C.1 C.2.1 hd (by decide) (by decide) (off := o0) (by first | rfl | decide) h0 (k0 h H locs ls hl hP hD hS)
  rw [if_neg q0] at h
  by_cases q1 : x = 1
  · rw [if_pos q1] at h
    subst q1
    exact lv_tableIn C.1 C.2.1 hd (by decide) (by decide) (off := o1) (by first | rfl | decide) h1 (k1 h H locs ls hl hP hD hS)
  rw [if_neg q1] at h
  by_cases q2 : x = 2
  · rw [if_pos q2] at h
    subst q2
    exact lv_tableIn C.1 C.2.1 hd (by decide) (by decide) (off := o2) (by first | rfl | decide) h2 (k2 h H locs ls hl hP hD hS)
  rw [if_neg q2] at h
  by_cases q3 : x = 3
  · rw [if_pos q3] at h
    subst q3
    exact lv_tableIn C.1 C.2.1 hd (by decide) (by decide) (off := o3) (by first | rfl | decide) h3 (k3 h H locs ls hl hP hD hS)
  rw [if_neg q3] at h
  by_cases q4 : x = 4
  · rw [if_pos q4] at h
    subst q4
    exact lv_tableIn C.1 C.2.1 hd (by decide) (by decide) (off := o4) (by first | rfl | decide) h4 (k4 h H locs ls hl hP hD hS)
  rw [if_neg q4] at h
  by_cases q5 : x = 5
  · rw [if_pos q5] at h
    subst q5
    exact lv_tableIn C.1 C.2.1 hd (by decide) (by decide) (off := o5) (by first | rfl | decide) h5 (k5 h H locs ls hl hP hD hS)
  rw [if_neg q5] at h
  refine lv_tableOut C.1 C.2.1 hd ?_ hdt (kd h H locs ls hl hP hD hS)
  have ne : ∀ k : Int32, ¬ x = k → ¬ x.toInt = k.toInt := fun k h e => h (Int32.toInt_inj.mp e)
  have e0 := ne 0 q0
  rw [show (0 : Int32).toInt = 0 from by decide] at e0
  have e1 := ne 1 q1
  rw [show (1 : Int32).toInt = 1 from by decide] at e1
  have e2 := ne 2 q2
  rw [show (2 : Int32).toInt = 2 from by decide] at e2
  have e3 := ne 3 q3
  rw [show (3 : Int32).toInt = 3 from by decide] at e3
  have e4 := ne 4 q4
  rw [show (4 : Int32).toInt = 4 from by decide] at e4
  have e5 := ne 5 q5
  rw [show (5 : Int32).toInt = 5 from by decide] at e5
  omega
end
end
section
abbrev wP (cI cJ : ClassId) (aP : Nat → Nat) (top_P : (Nat → Int32)) (bottom_P : (Nat → Int32)) : va_W := [(aP 0, .inr (0, [.ref (aP 1), .ref (aP 2)])), (aP 1, .inl (cI, 20, .inl top_P)), (aP 2, .inl (cI, 20, .inl bottom_P))]
def f_X0_has (top_P : (Nat → Int32)) (bottom_P : (Nat → Int32)) (x1 : Int32) (x2 : Int32) : Option Int32 := bnd x2 20 (if (top_P x2.toNatClampNeg) = x1 then (some 1) else (bnd x2 20 (if (bottom_P x2.toNatClampNeg) = x1 then (some 1) else (some 0))))
theorem cw_X0_has : CWv yX0_has cX0_has 3 (some .boolean) RX0 2 := ⟨m1_160, ms1_6, m1_2, m1_161, rfl, by decide, by decide, by decide +kernel⟩
set_option maxHeartbeats 4000000 in
set_option maxRecDepth 100000 in
theorem c_X0_has (l : Launch) (D : va_G) (cI cJ : ClassId) (aP : Nat → Nat) (top_P : (Nat → Int32)) (bottom_P : (Nat → Int32)) (x1 : Int32) (x2 : Int32) (r : Int32) (h : f_X0_has top_P bottom_P x1 x2 = some r) : Cti l D cI cJ yX0_has cX0_has 3 (some .boolean) 0 0 [.ref (aP 0), .int x1, .int x2] (wP cI cJ aP top_P bottom_P) (wP cI cJ aP top_P bottom_P) r := by
  refine mk_z [(0, .ref (aP 0)), (1, .int x1), (2, .int x2)] (by decide) rfl (Nat.le_of_ble_eq_true rfl) rfl (fun p e s m args below meth c A Q C hk => ?_)
  unfold f_X0_has at h
  refine v_aload_n C 0 dX0_has_0 rfl rfl ?_
  refine v_get C 0 0 iuX0 rfl rfl (by decide) m1_30 rfl rfl dX0_has_1 ?_
  refine v_iload_n C 2 dX0_has_4 rfl rfl ?_
  refine v_iald C 1 rfl dX0_has_5 h (fun h => ?_)
  refine v_iload_n C 1 dX0_has_6 rfl rfl ?_
  refine v_icmp_eq (tgt := 20) C dX0_has_7 (by decide) h (fun h => ?_) (fun h => ?_)
  · refine v_iconst (v := 1) C dX0_has_20 (by decide) ?_
    refine v_goto (tgt := 25) C dX0_has_21 (by decide) ?_
    cases h
    exact hk _ _ dX0_has_25 (Or.inr rfl)
  · refine v_aload_n C 0 dX0_has_10 rfl rfl ?_
    refine v_get C 0 1 iuX0 rfl rfl (by decide) m1_33 rfl rfl dX0_has_11 ?_
    refine v_iload_n C 2 dX0_has_14 rfl rfl ?_
    refine v_iald C 2 rfl dX0_has_15 h (fun h => ?_)
    refine v_iload_n C 1 dX0_has_16 rfl rfl ?_
    refine v_icmp_ne (tgt := 24) C dX0_has_17 (by decide) h (fun h => ?_) (fun h => ?_)
    · refine v_iconst (v := 1) C dX0_has_20 (by decide) ?_
      refine v_goto (tgt := 25) C dX0_has_21 (by decide) ?_
      cases h
      exact hk _ _ dX0_has_25 (Or.inr rfl)
    · refine v_iconst (v := 0) C dX0_has_24 (by decide) ?_
      cases h
      exact hk _ _ dX0_has_25 (Or.inl rfl)
def f_X0_pinsOf_B4 (x1 : Int32) (top_P : (Nat → Int32)) (bottom_P : (Nat → Int32)) : (Int32 × Int32) → Option ((Int32 × Int32) ⊕ Int32)
  | (x2, x3) => if 20 ≤ x3 then (some (.inr x2)) else (bnd x3 20 (if (top_P x3.toNatClampNeg) = x1 then (bnd x3 20 (if (bottom_P x3.toNatClampNeg) = x1 then (some (.inl (((x2 + 1) + 1, x3 + 1)))) else (some (.inl (x2 + 1, x3 + 1))))) else (bnd x3 20 (if (bottom_P x3.toNatClampNeg) = x1 then (some (.inl (x2 + 1, x3 + 1))) else (some (.inl (x2, x3 + 1)))))))
def f_X0_pinsOf (top_P : (Nat → Int32)) (bottom_P : (Nat → Int32)) (x1 : Int32) : Option Int32 := (lp (f_X0_pinsOf_B4 x1 top_P bottom_P) 64 (0, 0)).bind (fun r => match r with | x2_1 => some x2_1)
theorem cw_X0_pinsOf : CWv yX0_pinsOf cX0_pinsOf 4 (some .int) RX0 1 := ⟨m1_152, ms1_4, m1_2, m1_153, rfl, by decide, by decide, by decide +kernel⟩
set_option maxHeartbeats 4000000 in
set_option maxRecDepth 100000 in
theorem t_X0_pinsOf_B4 {p : Program} {l : Launch} {e : Env} {s : State} {m : MethodId} {args : Array Value} {below : List Frame} {meth : Method} {c : Code} {D : va_G} {A : Nat → Prop} {cI cJ : ClassId} {Q : State → Prop} (C : Cx p s m args c cX0_pinsOf 4 RX0 D A cI cJ) {aP : Nat → Nat} {x1 : Int32} {top_P : (Nat → Int32)} {bottom_P : (Nat → Int32)} (s8 : (Int32 × Int32)) (o8 : (Int32 × Int32) ⊕ Int32) (h : f_X0_pinsOf_B4 x1 top_P bottom_P s8 = some o8) (hl : ∀ s8, o8 = .inl s8 → V p l e (rmO 0 0) s m args below meth c 4 D A 0 0 Q 4 [(0, .ref (aP 0)), (1, .int x1), (2, .int s8.1), (3, .int s8.2)] [] (wP cI cJ aP top_P bottom_P)) (hx : ∀ r8, o8 = .inr r8 → V p l e (rmO 0 0) s m args below meth c 4 D A 0 0 Q 42 [(2, .int r8)] [] (wP cI cJ aP top_P bottom_P)) : V p l e (rmO 0 0) s m args below meth c 4 D A 0 0 Q 4 [(0, .ref (aP 0)), (1, .int x1), (2, .int s8.1), (3, .int s8.2)] [] (wP cI cJ aP top_P bottom_P) := by
  obtain ⟨x2, x3⟩ := s8
  unfold f_X0_pinsOf_B4 at h
  show V p l e (rmO 0 0) s m args below meth c 4 D A 0 0 Q 4 [(0, .ref (aP 0)), (1, .int x1), (2, .int x2), (3, .int x3)] [] (wP cI cJ aP top_P bottom_P)
  refine v_iload_n C 3 dX0_pinsOf_4 rfl rfl ?_
  refine v_bipush (v := 20) C dX0_pinsOf_5 (by decide) ?_
  refine v_icmp_ge (tgt := 42) C dX0_pinsOf_7 (by decide) h (fun h => ?_) (fun h => ?_)
  · refine v_perm [2] rfl ?_
    cases h
    exact hx _ rfl
  · refine v_aload_n C 0 dX0_pinsOf_10 rfl rfl ?_
    refine v_get C 0 0 iuX0 rfl rfl (by decide) m1_30 rfl rfl dX0_pinsOf_11 ?_
    refine v_iload_n C 3 dX0_pinsOf_14 rfl rfl ?_
    refine v_iald C 1 rfl dX0_pinsOf_15 h (fun h => ?_)
    refine v_iload_n C 1 dX0_pinsOf_16 rfl rfl ?_
    refine v_icmp_ne (tgt := 23) C dX0_pinsOf_17 (by decide) h (fun h => ?_) (fun h => ?_)
    · refine v_iinc C [(2, .int (x2 + 1)), (0, .ref (aP 0)), (1, .int x1), (3, .int x3)] 2 dX0_pinsOf_20 rfl rfl (by decide) rfl ?_
      refine v_aload_n C 1 dX0_pinsOf_23 rfl rfl ?_
      refine v_get C 0 1 iuX0 rfl rfl (by decide) m1_33 rfl rfl dX0_pinsOf_24 ?_
      refine v_iload_n C 3 dX0_pinsOf_27 rfl rfl ?_
      refine v_iald C 2 rfl dX0_pinsOf_28 h (fun h => ?_)
      refine v_iload_n C 2 dX0_pinsOf_29 rfl rfl ?_
      refine v_icmp_ne (tgt := 36) C dX0_pinsOf_30 (by decide) h (fun h => ?_) (fun h => ?_)
      · refine v_iinc C [(2, .int ((x2 + 1) + 1)), (0, .ref (aP 0)), (1, .int x1), (3, .int x3)] 0 dX0_pinsOf_33 rfl rfl (by decide) rfl ?_
        refine v_iinc C [(3, .int (x3 + 1)), (2, .int ((x2 + 1) + 1)), (0, .ref (aP 0)), (1, .int x1)] 3 dX0_pinsOf_36 rfl rfl (by decide) rfl ?_
        refine v_goto (tgt := 4) C dX0_pinsOf_39 (by decide) ?_
        refine v_perm [2, 3, 1, 0] rfl ?_
        cases h
        exact hl _ rfl
      · refine v_iinc C [(3, .int (x3 + 1)), (2, .int (x2 + 1)), (0, .ref (aP 0)), (1, .int x1)] 3 dX0_pinsOf_36 rfl rfl (by decide) rfl ?_
        refine v_goto (tgt := 4) C dX0_pinsOf_39 (by decide) ?_
        refine v_perm [2, 3, 1, 0] rfl ?_
        cases h
        exact hl _ rfl
    · refine v_aload_n C 0 dX0_pinsOf_23 rfl rfl ?_
      refine v_get C 0 1 iuX0 rfl rfl (by decide) m1_33 rfl rfl dX0_pinsOf_24 ?_
      refine v_iload_n C 3 dX0_pinsOf_27 rfl rfl ?_
      refine v_iald C 2 rfl dX0_pinsOf_28 h (fun h => ?_)
      refine v_iload_n C 1 dX0_pinsOf_29 rfl rfl ?_
      refine v_icmp_ne (tgt := 36) C dX0_pinsOf_30 (by decide) h (fun h => ?_) (fun h => ?_)
      · refine v_iinc C [(2, .int (x2 + 1)), (0, .ref (aP 0)), (1, .int x1), (3, .int x3)] 2 dX0_pinsOf_33 rfl rfl (by decide) rfl ?_
        refine v_iinc C [(3, .int (x3 + 1)), (2, .int (x2 + 1)), (0, .ref (aP 0)), (1, .int x1)] 3 dX0_pinsOf_36 rfl rfl (by decide) rfl ?_
        refine v_goto (tgt := 4) C dX0_pinsOf_39 (by decide) ?_
        refine v_perm [2, 3, 1, 0] rfl ?_
        cases h
        exact hl _ rfl
      · refine v_iinc C [(3, .int (x3 + 1)), (0, .ref (aP 0)), (1, .int x1), (2, .int x2)] 3 dX0_pinsOf_36 rfl rfl (by decide) rfl ?_
        refine v_goto (tgt := 4) C dX0_pinsOf_39 (by decide) ?_
        refine v_perm [1, 2, 3, 0] rfl ?_
        cases h
        exact hl _ rfl
set_option maxHeartbeats 4000000 in
set_option maxRecDepth 100000 in
theorem t_X0_pinsOf_L4 {p : Program} {l : Launch} {e : Env} {s : State} {m : MethodId} {args : Array Value} {below : List Frame} {meth : Method} {c : Code} {D : va_G} {A : Nat → Prop} {cI cJ : ClassId} {Q : State → Prop} (C : Cx p s m args c cX0_pinsOf 4 RX0 D A cI cJ) {aP : Nat → Nat} {x1 : Int32} {top_P : (Nat → Int32)} {bottom_P : (Nat → Int32)} {n8 : Nat} {s9 : (Int32 × Int32)} {o8 : Int32} (h : lp (f_X0_pinsOf_B4 x1 top_P bottom_P) n8 s9 = some o8) (hk : V p l e (rmO 0 0) s m args below meth c 4 D A 0 0 Q 42 [(2, .int o8)] [] (wP cI cJ aP top_P bottom_P)) : V p l e (rmO 0 0) s m args below meth c 4 D A 0 0 Q 4 [(0, .ref (aP 0)), (1, .int x1), (2, .int s9.1), (3, .int s9.2)] [] (wP cI cJ aP top_P bottom_P) := lp_ok (Pσ := fun s8 => V p l e (rmO 0 0) s m args below meth c 4 D A 0 0 Q 4 [(0, .ref (aP 0)), (1, .int x1), (2, .int s8.1), (3, .int s8.2)] [] (wP cI cJ aP top_P bottom_P)) (Pρ := fun r8 => V p l e (rmO 0 0) s m args below meth c 4 D A 0 0 Q 42 [(2, .int r8)] [] (wP cI cJ aP top_P bottom_P)) (fun s o h hl hx => t_X0_pinsOf_B4 C s o h hl hx) n8 s9 o8 h hk
set_option maxHeartbeats 4000000 in
set_option maxRecDepth 100000 in
theorem c_X0_pinsOf (l : Launch) (D : va_G) (cI cJ : ClassId) (aP : Nat → Nat) (top_P : (Nat → Int32)) (bottom_P : (Nat → Int32)) (x1 : Int32) (r : Int32) (h : f_X0_pinsOf top_P bottom_P x1 = some r) : Cti l D cI cJ yX0_pinsOf cX0_pinsOf 4 (some .int) 0 0 [.ref (aP 0), .int x1] (wP cI cJ aP top_P bottom_P) (wP cI cJ aP top_P bottom_P) r := by
  refine mk_i [(0, .ref (aP 0)), (1, .int x1)] (by decide) rfl (Nat.le_of_ble_eq_true rfl) rfl (fun p e s m args below meth c A Q C hk => ?_)
  unfold f_X0_pinsOf at h
  refine v_iconst (v := 0) C dX0_pinsOf_0 (by decide) ?_
  refine v_istore_n C [(2, .int 0), (0, .ref (aP 0)), (1, .int x1)] dX0_pinsOf_1 rfl (by decide) rfl ?_
  refine v_iconst (v := 0) C dX0_pinsOf_2 (by decide) ?_
  refine v_istore_n C [(3, .int 0), (2, .int 0), (0, .ref (aP 0)), (1, .int x1)] dX0_pinsOf_3 rfl (by decide) rfl ?_
  obtain ⟨r, h1, h⟩ := bind_el h
  refine v_perm [2, 3, 1, 0] rfl ?_
  obtain ⟨x2_1, rfl⟩ : ∃ z, z = r := ⟨_, rfl⟩
  refine t_X0_pinsOf_L4 C (s9 := (0, 0)) h1 ?_
  show V p l e (rmO 0 0) s m args below meth c 4 D A 0 0 Q 42 [(2, .int x2_1)] [] (wP cI cJ aP top_P bottom_P)
  try dsimp only at h
  refine v_iload_n C 0 dX0_pinsOf_42 rfl rfl ?_
  cases h
  exact hk _ _ dX0_pinsOf_43
def f_X0_firstColumn_B2 (x1 : Int32) (top_P : (Nat → Int32)) (bottom_P : (Nat → Int32)) : Int32 → Option (Int32 ⊕ (Unit ⊕ Int32))
  | x2 => if 20 ≤ x2 then (some (.inr (.inl ()))) else ((f_X0_has top_P bottom_P x1 x2).bind (fun r => match r with | r_1 => if r_1 = 0 then (some (.inl (x2 + 1))) else (some (.inr (.inr x2)))))
def f_X0_firstColumn (top_P : (Nat → Int32)) (bottom_P : (Nat → Int32)) (x1 : Int32) : Option Int32 := (lp (f_X0_firstColumn_B2 x1 top_P bottom_P) 64 0).bind (fun r => match r with | .inl _ => some (-1) | .inr x2_2 => some x2_2)
theorem cw_X0_firstColumn : CWv yX0_firstColumn cX0_firstColumn 3 (some .int) RX0 1 := ⟨m1_156, ms1_5, m1_2, m1_157, rfl, by decide, by decide, by decide +kernel⟩
set_option maxHeartbeats 4000000 in
set_option maxRecDepth 100000 in
theorem t_X0_firstColumn_B2 {p : Program} {l : Launch} {e : Env} {s : State} {m : MethodId} {args : Array Value} {below : List Frame} {meth : Method} {c : Code} {D : va_G} {A : Nat → Prop} {cI cJ : ClassId} {Q : State → Prop} (C : Cx p s m args c cX0_firstColumn 3 RX0 D A cI cJ) {aP : Nat → Nat} {x1 : Int32} {top_P : (Nat → Int32)} {bottom_P : (Nat → Int32)} (s8 : Int32) (o8 : Int32 ⊕ (Unit ⊕ Int32)) (h : f_X0_firstColumn_B2 x1 top_P bottom_P s8 = some o8) (hl : ∀ s8, o8 = .inl s8 → V p l e (rmO 1 22) s m args below meth c 3 D A 0 0 Q 2 [(0, .ref (aP 0)), (1, .int x1), (2, .int s8)] [] (wP cI cJ aP top_P bottom_P)) (hx0 : ∀ r8, o8 = .inr (.inl r8) → V p l e (rmO 1 22) s m args below meth c 3 D A 0 0 Q 25 [] [] (wP cI cJ aP top_P bottom_P)) (hx1 : ∀ r8, o8 = .inr (.inr r8) → V p l e (rmO 1 22) s m args below meth c 3 D A 0 0 Q 17 [(2, .int r8)] [] (wP cI cJ aP top_P bottom_P)) : V p l e (rmO 1 22) s m args below meth c 3 D A 0 0 Q 2 [(0, .ref (aP 0)), (1, .int x1), (2, .int s8)] [] (wP cI cJ aP top_P bottom_P) := by
  obtain ⟨x2, rfl⟩ : ∃ z, z = s8 := ⟨_, rfl⟩
  unfold f_X0_firstColumn_B2 at h
  show V p l e (rmO 1 22) s m args below meth c 3 D A 0 0 Q 2 [(0, .ref (aP 0)), (1, .int x1), (2, .int x2)] [] (wP cI cJ aP top_P bottom_P)
  refine v_iload_n C 2 dX0_firstColumn_2 rfl rfl ?_
  refine v_bipush (v := 20) C dX0_firstColumn_3 (by decide) ?_
  refine v_icmp_ge (tgt := 25) C dX0_firstColumn_5 (by decide) h (fun h => ?_) (fun h => ?_)
  · refine v_perm [] rfl ?_
    cases h
    exact hx0 _ rfl
  · refine v_aload_n C 0 dX0_firstColumn_8 rfl rfl ?_
    refine v_iload_n C 1 dX0_firstColumn_9 rfl rfl ?_
    refine v_iload_n C 2 dX0_firstColumn_10 rfl rfl ?_
    obtain ⟨r, h1, h⟩ := bind_el h
    obtain ⟨r_1, rfl⟩ : ∃ z, z = r := ⟨_, rfl⟩
    try dsimp only at h
    refine v_callVi (As := [.int x1, .int x2]) (st := []) (wr := []) (w1 := (wP cI cJ aP top_P bottom_P)) (ws' := (wP cI cJ aP top_P bottom_P)) (isC := [0, 1, 2]) (isR := []) (pm := [0, 1, 2]) C (c_X0_has l D cI cJ aP top_P bottom_P x1 x2 r_1 h1) cw_X0_has 0 rfl rfl m1_158 dX0_firstColumn_11 rfl ⟨Nat.le_of_ble_eq_true rfl, Nat.le_of_ble_eq_true rfl⟩ (Nat.le_of_ble_eq_true rfl) ⟨Nat.le_refl 0, Nat.le_refl 0⟩ ⟨rfl, rfl, rfl, rfl, by decide, rfl, rfl⟩ ?_
    refine v_if_eq (tgt := 19) C dX0_firstColumn_14 (by decide) h (fun h => ?_) (fun h => ?_)
    · refine v_iinc C [(2, .int (x2 + 1)), (0, .ref (aP 0)), (1, .int x1)] 2 dX0_firstColumn_19 rfl rfl (by decide) rfl ?_
      refine v_goto (tgt := 2) C dX0_firstColumn_22 (by decide) ?_
      refine v_perm [1, 2, 0] rfl ?_
      cases h
      exact hl _ rfl
    · refine v_perm [2] rfl ?_
      cases h
      exact hx1 _ rfl
set_option maxHeartbeats 4000000 in
set_option maxRecDepth 100000 in
theorem t_X0_firstColumn_L2 {p : Program} {l : Launch} {e : Env} {s : State} {m : MethodId} {args : Array Value} {below : List Frame} {meth : Method} {c : Code} {D : va_G} {A : Nat → Prop} {cI cJ : ClassId} {Q : State → Prop} (C : Cx p s m args c cX0_firstColumn 3 RX0 D A cI cJ) {aP : Nat → Nat} {x1 : Int32} {top_P : (Nat → Int32)} {bottom_P : (Nat → Int32)} {n8 : Nat} {s9 : Int32} {o8 : (Unit ⊕ Int32)} (h : lp (f_X0_firstColumn_B2 x1 top_P bottom_P) n8 s9 = some o8) (hk : (Sum.elim (fun r8 => V p l e (rmO 1 22) s m args below meth c 3 D A 0 0 Q 25 [] [] (wP cI cJ aP top_P bottom_P)) (fun r8 => V p l e (rmO 1 22) s m args below meth c 3 D A 0 0 Q 17 [(2, .int r8)] [] (wP cI cJ aP top_P bottom_P))) o8) : V p l e (rmO 1 22) s m args below meth c 3 D A 0 0 Q 2 [(0, .ref (aP 0)), (1, .int x1), (2, .int s9)] [] (wP cI cJ aP top_P bottom_P) := lp_ok (Pσ := fun s8 => V p l e (rmO 1 22) s m args below meth c 3 D A 0 0 Q 2 [(0, .ref (aP 0)), (1, .int x1), (2, .int s8)] [] (wP cI cJ aP top_P bottom_P)) (Pρ := Sum.elim (fun r8 => V p l e (rmO 1 22) s m args below meth c 3 D A 0 0 Q 25 [] [] (wP cI cJ aP top_P bottom_P)) (fun r8 => V p l e (rmO 1 22) s m args below meth c 3 D A 0 0 Q 17 [(2, .int r8)] [] (wP cI cJ aP top_P bottom_P))) (fun s o h hl hx => t_X0_firstColumn_B2 C s o h hl (fun r e => hx _ e) (fun r e => hx _ e)) n8 s9 o8 h hk
set_option maxHeartbeats 4000000 in
set_option maxRecDepth 100000 in
theorem c_X0_firstColumn (l : Launch) (D : va_G) (cI cJ : ClassId) (aP : Nat → Nat) (top_P : (Nat → Int32)) (bottom_P : (Nat → Int32)) (x1 : Int32) (r : Int32) (h : f_X0_firstColumn top_P bottom_P x1 = some r) : Cti l D cI cJ yX0_firstColumn cX0_firstColumn 3 (some .int) 1 22 [.ref (aP 0), .int x1] (wP cI cJ aP top_P bottom_P) (wP cI cJ aP top_P bottom_P) r := by
  refine mk_i [(0, .ref (aP 0)), (1, .int x1)] (by decide) rfl (Nat.le_of_ble_eq_true rfl) rfl (fun p e s m args below meth c A Q C hk => ?_)
  unfold f_X0_firstColumn at h
  refine v_iconst (v := 0) C dX0_firstColumn_0 (by decide) ?_
  refine v_istore_n C [(2, .int 0), (0, .ref (aP 0)), (1, .int x1)] dX0_firstColumn_1 rfl (by decide) rfl ?_
  obtain ⟨r, h1, h⟩ := bind_el h
  refine v_perm [1, 2, 0] rfl ?_
  rcases r with _ | ⟨x2_2⟩
  · refine t_X0_firstColumn_L2 C (s9 := 0) h1 ?_
    show V p l e (rmO 1 22) s m args below meth c 3 D A 0 0 Q 25 [] [] (wP cI cJ aP top_P bottom_P)
    try dsimp only at h
    refine v_iconst (v := (-1)) C dX0_firstColumn_25 (by decide) ?_
    cases h
    exact hk _ _ dX0_firstColumn_26
  · refine t_X0_firstColumn_L2 C (s9 := 0) h1 ?_
    show V p l e (rmO 1 22) s m args below meth c 3 D A 0 0 Q 17 [(2, .int x2_2)] [] (wP cI cJ aP top_P bottom_P)
    try dsimp only at h
    refine v_iload_n C 0 dX0_firstColumn_17 rfl rfl ?_
    cases h
    exact hk _ _ dX0_firstColumn_18
def f_X0_lastColumn_B3 (x1 : Int32) (top_P : (Nat → Int32)) (bottom_P : (Nat → Int32)) : Int32 → Option (Int32 ⊕ (Unit ⊕ Int32))
  | x2 => if x2 < 0 then (some (.inr (.inl ()))) else ((f_X0_has top_P bottom_P x1 x2).bind (fun r => match r with | r_1 => if r_1 = 0 then (some (.inl (x2 + (-1)))) else (some (.inr (.inr x2)))))
def f_X0_lastColumn (top_P : (Nat → Int32)) (bottom_P : (Nat → Int32)) (x1 : Int32) : Option Int32 := (lp (f_X0_lastColumn_B3 x1 top_P bottom_P) 64 19).bind (fun r => match r with | .inl _ => some (-1) | .inr x2_2 => some x2_2)
theorem cw_X0_lastColumn : CWv yX0_lastColumn cX0_lastColumn 3 (some .int) RX0 1 := ⟨m1_164, ms1_7, m1_2, m1_165, rfl, by decide, by decide, by decide +kernel⟩
set_option maxHeartbeats 4000000 in
set_option maxRecDepth 100000 in
theorem t_X0_lastColumn_B3 {p : Program} {l : Launch} {e : Env} {s : State} {m : MethodId} {args : Array Value} {below : List Frame} {meth : Method} {c : Code} {D : va_G} {A : Nat → Prop} {cI cJ : ClassId} {Q : State → Prop} (C : Cx p s m args c cX0_lastColumn 3 RX0 D A cI cJ) {aP : Nat → Nat} {x1 : Int32} {top_P : (Nat → Int32)} {bottom_P : (Nat → Int32)} (s8 : Int32) (o8 : Int32 ⊕ (Unit ⊕ Int32)) (h : f_X0_lastColumn_B3 x1 top_P bottom_P s8 = some o8) (hl : ∀ s8, o8 = .inl s8 → V p l e (rmO 1 22) s m args below meth c 3 D A 0 0 Q 3 [(0, .ref (aP 0)), (1, .int x1), (2, .int s8)] [] (wP cI cJ aP top_P bottom_P)) (hx0 : ∀ r8, o8 = .inr (.inl r8) → V p l e (rmO 1 22) s m args below meth c 3 D A 0 0 Q 24 [] [] (wP cI cJ aP top_P bottom_P)) (hx1 : ∀ r8, o8 = .inr (.inr r8) → V p l e (rmO 1 22) s m args below meth c 3 D A 0 0 Q 16 [(2, .int r8)] [] (wP cI cJ aP top_P bottom_P)) : V p l e (rmO 1 22) s m args below meth c 3 D A 0 0 Q 3 [(0, .ref (aP 0)), (1, .int x1), (2, .int s8)] [] (wP cI cJ aP top_P bottom_P) := by
  obtain ⟨x2, rfl⟩ : ∃ z, z = s8 := ⟨_, rfl⟩
  unfold f_X0_lastColumn_B3 at h
  show V p l e (rmO 1 22) s m args below meth c 3 D A 0 0 Q 3 [(0, .ref (aP 0)), (1, .int x1), (2, .int x2)] [] (wP cI cJ aP top_P bottom_P)
  refine v_iload_n C 2 dX0_lastColumn_3 rfl rfl ?_
  refine v_if_lt (tgt := 24) C dX0_lastColumn_4 (by decide) h (fun h => ?_) (fun h => ?_)
  · refine v_perm [] rfl ?_
    cases h
    exact hx0 _ rfl
  · refine v_aload_n C 0 dX0_lastColumn_7 rfl rfl ?_
    refine v_iload_n C 1 dX0_lastColumn_8 rfl rfl ?_
    refine v_iload_n C 2 dX0_lastColumn_9 rfl rfl ?_
    obtain ⟨r, h1, h⟩ := bind_el h
    obtain ⟨r_1, rfl⟩ : ∃ z, z = r := ⟨_, rfl⟩
    try dsimp only at h
    refine v_callVi (As := [.int x1, .int x2]) (st := []) (wr := []) (w1 := (wP cI cJ aP top_P bottom_P)) (ws' := (wP cI cJ aP top_P bottom_P)) (isC := [0, 1, 2]) (isR := []) (pm := [0, 1, 2]) C (c_X0_has l D cI cJ aP top_P bottom_P x1 x2 r_1 h1) cw_X0_has 0 rfl rfl m1_158 dX0_lastColumn_10 rfl ⟨Nat.le_of_ble_eq_true rfl, Nat.le_of_ble_eq_true rfl⟩ (Nat.le_of_ble_eq_true rfl) ⟨Nat.le_refl 0, Nat.le_refl 0⟩ ⟨rfl, rfl, rfl, rfl, by decide, rfl, rfl⟩ ?_
    refine v_if_eq (tgt := 18) C dX0_lastColumn_13 (by decide) h (fun h => ?_) (fun h => ?_)
    · refine v_iinc C [(2, .int (x2 + (-1))), (0, .ref (aP 0)), (1, .int x1)] 2 dX0_lastColumn_18 rfl rfl (by decide) rfl ?_
      refine v_goto (tgt := 3) C dX0_lastColumn_21 (by decide) ?_
      refine v_perm [1, 2, 0] rfl ?_
      cases h
      exact hl _ rfl
    · refine v_perm [2] rfl ?_
      cases h
      exact hx1 _ rfl
set_option maxHeartbeats 4000000 in
set_option maxRecDepth 100000 in
theorem t_X0_lastColumn_L3 {p : Program} {l : Launch} {e : Env} {s : State} {m : MethodId} {args : Array Value} {below : List Frame} {meth : Method} {c : Code} {D : va_G} {A : Nat → Prop} {cI cJ : ClassId} {Q : State → Prop} (C : Cx p s m args c cX0_lastColumn 3 RX0 D A cI cJ) {aP : Nat → Nat} {x1 : Int32} {top_P : (Nat → Int32)} {bottom_P : (Nat → Int32)} {n8 : Nat} {s9 : Int32} {o8 : (Unit ⊕ Int32)} (h : lp (f_X0_lastColumn_B3 x1 top_P bottom_P) n8 s9 = some o8) (hk : (Sum.elim (fun r8 => V p l e (rmO 1 22) s m args below meth c 3 D A 0 0 Q 24 [] [] (wP cI cJ aP top_P bottom_P)) (fun r8 => V p l e (rmO 1 22) s m args below meth c 3 D A 0 0 Q 16 [(2, .int r8)] [] (wP cI cJ aP top_P bottom_P))) o8) : V p l e (rmO 1 22) s m args below meth c 3 D A 0 0 Q 3 [(0, .ref (aP 0)), (1, .int x1), (2, .int s9)] [] (wP cI cJ aP top_P bottom_P) := lp_ok (Pσ := fun s8 => V p l e (rmO 1 22) s m args below meth c 3 D A 0 0 Q 3 [(0, .ref (aP 0)), (1, .int x1), (2, .int s8)] [] (wP cI cJ aP top_P bottom_P)) (Pρ := Sum.elim (fun r8 => V p l e (rmO 1 22) s m args below meth c 3 D A 0 0 Q 24 [] [] (wP cI cJ aP top_P bottom_P)) (fun r8 => V p l e (rmO 1 22) s m args below meth c 3 D A 0 0 Q 16 [(2, .int r8)] [] (wP cI cJ aP top_P bottom_P))) (fun s o h hl hx => t_X0_lastColumn_B3 C s o h hl (fun r e => hx _ e) (fun r e => hx _ e)) n8 s9 o8 h hk
set_option maxHeartbeats 4000000 in
set_option maxRecDepth 100000 in
theorem c_X0_lastColumn (l : Launch) (D : va_G) (cI cJ : ClassId) (aP : Nat → Nat) (top_P : (Nat → Int32)) (bottom_P : (Nat → Int32)) (x1 : Int32) (r : Int32) (h : f_X0_lastColumn top_P bottom_P x1 = some r) : Cti l D cI cJ yX0_lastColumn cX0_lastColumn 3 (some .int) 1 22 [.ref (aP 0), .int x1] (wP cI cJ aP top_P bottom_P) (wP cI cJ aP top_P bottom_P) r := by
  refine mk_i [(0, .ref (aP 0)), (1, .int x1)] (by decide) rfl (Nat.le_of_ble_eq_true rfl) rfl (fun p e s m args below meth c A Q C hk => ?_)
  unfold f_X0_lastColumn at h
  refine v_bipush (v := 19) C dX0_lastColumn_0 (by decide) ?_
  refine v_istore_n C [(2, .int 19), (0, .ref (aP 0)), (1, .int x1)] dX0_lastColumn_2 rfl (by decide) rfl ?_
  obtain ⟨r, h1, h⟩ := bind_el h
  refine v_perm [1, 2, 0] rfl ?_
  rcases r with _ | ⟨x2_2⟩
  · refine t_X0_lastColumn_L3 C (s9 := 19) h1 ?_
    show V p l e (rmO 1 22) s m args below meth c 3 D A 0 0 Q 24 [] [] (wP cI cJ aP top_P bottom_P)
    try dsimp only at h
    refine v_iconst (v := (-1)) C dX0_lastColumn_24 (by decide) ?_
    cases h
    exact hk _ _ dX0_lastColumn_25
  · refine t_X0_lastColumn_L3 C (s9 := 19) h1 ?_
    show V p l e (rmO 1 22) s m args below meth c 3 D A 0 0 Q 16 [(2, .int x2_2)] [] (wP cI cJ aP top_P bottom_P)
    try dsimp only at h
    refine v_iload_n C 0 dX0_lastColumn_16 rfl rfl ?_
    cases h
    exact hk _ _ dX0_lastColumn_17
def f_X0_kindOf (top_P : (Nat → Int32)) (bottom_P : (Nat → Int32)) (x1 : Int32) : Option Int32 := (f_X0_pinsOf top_P bottom_P x1).bind (fun r => match r with | r_1 => if r_1 = 0 then (some 0) else (if r_1 = 1 then (some 1) else ((f_X0_firstColumn top_P bottom_P x1).bind (fun r => match r with | r_2 => (f_X0_lastColumn top_P bottom_P x1).bind (fun r => match r with | r_3 => if r_2 = r_3 then (some 2) else (some 3))))))
theorem cw_X0_kindOf : CWv yX0_kindOf cX0_kindOf 3 (some .int) RX0 1 := ⟨m1_148, ms1_3, m1_2, m1_149, rfl, by decide, by decide, by decide +kernel⟩
set_option maxHeartbeats 4000000 in
set_option maxRecDepth 100000 in
theorem c_X0_kindOf (l : Launch) (D : va_G) (cI cJ : ClassId) (aP : Nat → Nat) (top_P : (Nat → Int32)) (bottom_P : (Nat → Int32)) (x1 : Int32) (r : Int32) (h : f_X0_kindOf top_P bottom_P x1 = some r) : Cti l D cI cJ yX0_kindOf cX0_kindOf 3 (some .int) 2 44 [.ref (aP 0), .int x1] (wP cI cJ aP top_P bottom_P) (wP cI cJ aP top_P bottom_P) r := by
  refine mk_i [(0, .ref (aP 0)), (1, .int x1)] (by decide) rfl (Nat.le_of_ble_eq_true rfl) rfl (fun p e s m args below meth c A Q C hk => ?_)
  unfold f_X0_kindOf at h
  refine v_aload_n C 0 dX0_kindOf_0 rfl rfl ?_
  refine v_iload_n C 1 dX0_kindOf_1 rfl rfl ?_
  obtain ⟨r, h1, h⟩ := bind_el h
  obtain ⟨r_1, rfl⟩ : ∃ z, z = r := ⟨_, rfl⟩
  try dsimp only at h
  refine v_callVi (As := [.int x1]) (st := []) (wr := []) (w1 := (wP cI cJ aP top_P bottom_P)) (ws' := (wP cI cJ aP top_P bottom_P)) (isC := [0, 1, 2]) (isR := []) (pm := [0, 1, 2]) C (c_X0_pinsOf l D cI cJ aP top_P bottom_P x1 r_1 h1) cw_X0_pinsOf 0 rfl rfl m1_150 dX0_kindOf_2 rfl ⟨Nat.le_of_ble_eq_true rfl, Nat.le_of_ble_eq_true rfl⟩ (Nat.le_of_ble_eq_true rfl) ⟨Nat.le_refl 0, Nat.le_refl 0⟩ ⟨rfl, rfl, rfl, rfl, by decide, rfl, rfl⟩ ?_
  refine v_istore_n C [(2, .int r_1), (0, .ref (aP 0)), (1, .int x1)] dX0_kindOf_5 rfl (by decide) rfl ?_
  refine v_iload_n C 0 dX0_kindOf_6 rfl rfl ?_
  refine v_if_ne (tgt := 12) C dX0_kindOf_7 (by decide) h (fun h => ?_) (fun h => ?_)
  · refine v_iconst (v := 0) C dX0_kindOf_10 (by decide) ?_
    cases h
    exact hk _ _ dX0_kindOf_11
  · refine v_iload_n C 0 dX0_kindOf_12 rfl rfl ?_
    refine v_iconst (v := 1) C dX0_kindOf_13 (by decide) ?_
    refine v_icmp_ne (tgt := 19) C dX0_kindOf_14 (by decide) h (fun h => ?_) (fun h => ?_)
    · refine v_iconst (v := 1) C dX0_kindOf_17 (by decide) ?_
      cases h
      exact hk _ _ dX0_kindOf_18
    · refine v_aload_n C 1 dX0_kindOf_19 rfl rfl ?_
      refine v_iload_n C 2 dX0_kindOf_20 rfl rfl ?_
      obtain ⟨r, h1, h⟩ := bind_el h
      obtain ⟨r_2, rfl⟩ : ∃ z, z = r := ⟨_, rfl⟩
      try dsimp only at h
      refine v_callVi (As := [.int x1]) (st := []) (wr := []) (w1 := (wP cI cJ aP top_P bottom_P)) (ws' := (wP cI cJ aP top_P bottom_P)) (isC := [0, 1, 2]) (isR := []) (pm := [0, 1, 2]) C (c_X0_firstColumn l D cI cJ aP top_P bottom_P x1 r_2 h1) cw_X0_firstColumn 0 rfl rfl m1_154 dX0_kindOf_21 rfl ⟨Nat.le_of_ble_eq_true rfl, Nat.le_of_ble_eq_true rfl⟩ (Nat.le_of_ble_eq_true rfl) ⟨Nat.le_refl 0, Nat.le_refl 0⟩ ⟨rfl, rfl, rfl, rfl, by decide, rfl, rfl⟩ ?_
      refine v_aload_n C 1 dX0_kindOf_24 rfl rfl ?_
      refine v_iload_n C 2 dX0_kindOf_25 rfl rfl ?_
      obtain ⟨r, h1, h⟩ := bind_el h
      obtain ⟨r_3, rfl⟩ : ∃ z, z = r := ⟨_, rfl⟩
      try dsimp only at h
      refine v_callVi (As := [.int x1]) (st := [.int r_2]) (wr := []) (w1 := (wP cI cJ aP top_P bottom_P)) (ws' := (wP cI cJ aP top_P bottom_P)) (isC := [0, 1, 2]) (isR := []) (pm := [0, 1, 2]) C (c_X0_lastColumn l D cI cJ aP top_P bottom_P x1 r_3 h1) cw_X0_lastColumn 0 rfl rfl m1_162 dX0_kindOf_26 rfl ⟨Nat.le_of_ble_eq_true rfl, Nat.le_of_ble_eq_true rfl⟩ (Nat.le_of_ble_eq_true rfl) ⟨Nat.le_refl 0, Nat.le_refl 0⟩ ⟨rfl, rfl, rfl, rfl, by decide, rfl, rfl⟩ ?_
      refine v_icmp_ne (tgt := 36) C dX0_kindOf_29 (by decide) h (fun h => ?_) (fun h => ?_)
      · refine v_iconst (v := 2) C dX0_kindOf_32 (by decide) ?_
        refine v_goto (tgt := 37) C dX0_kindOf_33 (by decide) ?_
        cases h
        exact hk _ _ dX0_kindOf_37
      · refine v_iconst (v := 3) C dX0_kindOf_36 (by decide) ?_
        cases h
        exact hk _ _ dX0_kindOf_37
def f_X0_isLong (top_P : (Nat → Int32)) (bottom_P : (Nat → Int32)) (x1 : Int32) : Option Int32 := (f_X0_kindOf top_P bottom_P x1).bind (fun r => match r with | r_1 => if r_1 = 3 then (some 1) else (some 0))
theorem cw_X0_isLong : CWv yX0_isLong cX0_isLong 2 (some .boolean) RX0 1 := ⟨m1_144, ms1_2, m1_2, m1_145, rfl, by decide, by decide, by decide +kernel⟩
set_option maxHeartbeats 4000000 in
set_option maxRecDepth 100000 in
theorem c_X0_isLong (l : Launch) (D : va_G) (cI cJ : ClassId) (aP : Nat → Nat) (top_P : (Nat → Int32)) (bottom_P : (Nat → Int32)) (x1 : Int32) (r : Int32) (h : f_X0_isLong top_P bottom_P x1 = some r) : Cti l D cI cJ yX0_isLong cX0_isLong 2 (some .boolean) 3 66 [.ref (aP 0), .int x1] (wP cI cJ aP top_P bottom_P) (wP cI cJ aP top_P bottom_P) r := by
  refine mk_z [(0, .ref (aP 0)), (1, .int x1)] (by decide) rfl (Nat.le_of_ble_eq_true rfl) rfl (fun p e s m args below meth c A Q C hk => ?_)
  unfold f_X0_isLong at h
  refine v_aload_n C 0 dX0_isLong_0 rfl rfl ?_
  refine v_iload_n C 1 dX0_isLong_1 rfl rfl ?_
  obtain ⟨r, h1, h⟩ := bind_el h
  obtain ⟨r_1, rfl⟩ : ∃ z, z = r := ⟨_, rfl⟩
  try dsimp only at h
  refine v_callVi (As := [.int x1]) (st := []) (wr := []) (w1 := (wP cI cJ aP top_P bottom_P)) (ws' := (wP cI cJ aP top_P bottom_P)) (isC := [0, 1, 2]) (isR := []) (pm := [0, 1, 2]) C (c_X0_kindOf l D cI cJ aP top_P bottom_P x1 r_1 h1) cw_X0_kindOf 0 rfl rfl m1_146 dX0_isLong_2 rfl ⟨Nat.le_of_ble_eq_true rfl, Nat.le_of_ble_eq_true rfl⟩ (Nat.le_of_ble_eq_true rfl) ⟨Nat.le_refl 0, Nat.le_refl 0⟩ ⟨rfl, rfl, rfl, rfl, by decide, rfl, rfl⟩ ?_
  refine v_iconst (v := 3) C dX0_isLong_5 (by decide) ?_
  refine v_icmp_ne (tgt := 13) C dX0_isLong_6 (by decide) h (fun h => ?_) (fun h => ?_)
  · refine v_iconst (v := 1) C dX0_isLong_9 (by decide) ?_
    refine v_goto (tgt := 14) C dX0_isLong_10 (by decide) ?_
    cases h
    exact hk _ _ dX0_isLong_14 (Or.inr rfl)
  · refine v_iconst (v := 0) C dX0_isLong_13 (by decide) ?_
    cases h
    exact hk _ _ dX0_isLong_14 (Or.inl rfl)
def f_X0_anySingle_B2 (top_P : (Nat → Int32)) (bottom_P : (Nat → Int32)) : Int32 → Option (Int32 ⊕ (Unit ⊕ Unit))
  | x1 => if 9 < x1 then (some (.inr (.inl ()))) else ((f_X0_kindOf top_P bottom_P x1).bind (fun r => match r with | r_1 => if r_1 = 1 then (some (.inr (.inr ()))) else (some (.inl (x1 + 1)))))
def f_X0_anySingle (top_P : (Nat → Int32)) (bottom_P : (Nat → Int32)) : Option Int32 := (lp (f_X0_anySingle_B2 top_P bottom_P) 64 1).bind (fun r => match r with | .inl _ => some 0 | .inr _ => some 1)
theorem cw_X0_anySingle : CWv yX0_anySingle cX0_anySingle 2 (some .boolean) RX0 0 := ⟨m2_115, ms2_6, m1_2, m2_116, rfl, by decide, by decide, by decide +kernel⟩
set_option maxHeartbeats 4000000 in
set_option maxRecDepth 100000 in
theorem t_X0_anySingle_B2 {p : Program} {l : Launch} {e : Env} {s : State} {m : MethodId} {args : Array Value} {below : List Frame} {meth : Method} {c : Code} {D : va_G} {A : Nat → Prop} {cI cJ : ClassId} {Q : State → Prop} (C : Cx p s m args c cX0_anySingle 2 RX0 D A cI cJ) {aP : Nat → Nat} {top_P : (Nat → Int32)} {bottom_P : (Nat → Int32)} (s8 : Int32) (o8 : Int32 ⊕ (Unit ⊕ Unit)) (h : f_X0_anySingle_B2 top_P bottom_P s8 = some o8) (hl : ∀ s8, o8 = .inl s8 → V p l e (rmO 3 66) s m args below meth c 2 D A 0 0 Q 2 [(0, .ref (aP 0)), (1, .int s8)] [] (wP cI cJ aP top_P bottom_P)) (hx0 : ∀ r8, o8 = .inr (.inl r8) → V p l e (rmO 3 66) s m args below meth c 2 D A 0 0 Q 25 [] [] (wP cI cJ aP top_P bottom_P)) (hx1 : ∀ r8, o8 = .inr (.inr r8) → V p l e (rmO 3 66) s m args below meth c 2 D A 0 0 Q 17 [] [] (wP cI cJ aP top_P bottom_P)) : V p l e (rmO 3 66) s m args below meth c 2 D A 0 0 Q 2 [(0, .ref (aP 0)), (1, .int s8)] [] (wP cI cJ aP top_P bottom_P) := by
  obtain ⟨x1, rfl⟩ : ∃ z, z = s8 := ⟨_, rfl⟩
  unfold f_X0_anySingle_B2 at h
  show V p l e (rmO 3 66) s m args below meth c 2 D A 0 0 Q 2 [(0, .ref (aP 0)), (1, .int x1)] [] (wP cI cJ aP top_P bottom_P)
  refine v_iload_n C 1 dX0_anySingle_2 rfl rfl ?_
  refine v_bipush (v := 9) C dX0_anySingle_3 (by decide) ?_
  refine v_icmp_gt (tgt := 25) C dX0_anySingle_5 (by decide) h (fun h => ?_) (fun h => ?_)
  · refine v_perm [] rfl ?_
    cases h
    exact hx0 _ rfl
  · refine v_aload_n C 0 dX0_anySingle_8 rfl rfl ?_
    refine v_iload_n C 1 dX0_anySingle_9 rfl rfl ?_
    obtain ⟨r, h1, h⟩ := bind_el h
    obtain ⟨r_1, rfl⟩ : ∃ z, z = r := ⟨_, rfl⟩
    try dsimp only at h
    refine v_callVi (As := [.int x1]) (st := []) (wr := []) (w1 := (wP cI cJ aP top_P bottom_P)) (ws' := (wP cI cJ aP top_P bottom_P)) (isC := [0, 1, 2]) (isR := []) (pm := [0, 1, 2]) C (c_X0_kindOf l D cI cJ aP top_P bottom_P x1 r_1 h1) cw_X0_kindOf 0 rfl rfl m1_146 dX0_anySingle_10 rfl ⟨Nat.le_of_ble_eq_true rfl, Nat.le_of_ble_eq_true rfl⟩ (Nat.le_of_ble_eq_true rfl) ⟨Nat.le_refl 0, Nat.le_refl 0⟩ ⟨rfl, rfl, rfl, rfl, by decide, rfl, rfl⟩ ?_
    refine v_iconst (v := 1) C dX0_anySingle_13 (by decide) ?_
    refine v_icmp_ne (tgt := 19) C dX0_anySingle_14 (by decide) h (fun h => ?_) (fun h => ?_)
    · refine v_perm [] rfl ?_
      cases h
      exact hx1 _ rfl
    · refine v_iinc C [(1, .int (x1 + 1)), (0, .ref (aP 0))] 1 dX0_anySingle_19 rfl rfl (by decide) rfl ?_
      refine v_goto (tgt := 2) C dX0_anySingle_22 (by decide) ?_
      refine v_perm [1, 0] rfl ?_
      cases h
      exact hl _ rfl
set_option maxHeartbeats 4000000 in
set_option maxRecDepth 100000 in
theorem t_X0_anySingle_L2 {p : Program} {l : Launch} {e : Env} {s : State} {m : MethodId} {args : Array Value} {below : List Frame} {meth : Method} {c : Code} {D : va_G} {A : Nat → Prop} {cI cJ : ClassId} {Q : State → Prop} (C : Cx p s m args c cX0_anySingle 2 RX0 D A cI cJ) {aP : Nat → Nat} {top_P : (Nat → Int32)} {bottom_P : (Nat → Int32)} {n8 : Nat} {s9 : Int32} {o8 : (Unit ⊕ Unit)} (h : lp (f_X0_anySingle_B2 top_P bottom_P) n8 s9 = some o8) (hk : (Sum.elim (fun r8 => V p l e (rmO 3 66) s m args below meth c 2 D A 0 0 Q 25 [] [] (wP cI cJ aP top_P bottom_P)) (fun r8 => V p l e (rmO 3 66) s m args below meth c 2 D A 0 0 Q 17 [] [] (wP cI cJ aP top_P bottom_P))) o8) : V p l e (rmO 3 66) s m args below meth c 2 D A 0 0 Q 2 [(0, .ref (aP 0)), (1, .int s9)] [] (wP cI cJ aP top_P bottom_P) := lp_ok (Pσ := fun s8 => V p l e (rmO 3 66) s m args below meth c 2 D A 0 0 Q 2 [(0, .ref (aP 0)), (1, .int s8)] [] (wP cI cJ aP top_P bottom_P)) (Pρ := Sum.elim (fun r8 => V p l e (rmO 3 66) s m args below meth c 2 D A 0 0 Q 25 [] [] (wP cI cJ aP top_P bottom_P)) (fun r8 => V p l e (rmO 3 66) s m args below meth c 2 D A 0 0 Q 17 [] [] (wP cI cJ aP top_P bottom_P))) (fun s o h hl hx => t_X0_anySingle_B2 C s o h hl (fun r e => hx _ e) (fun r e => hx _ e)) n8 s9 o8 h hk
set_option maxHeartbeats 4000000 in
set_option maxRecDepth 100000 in
theorem c_X0_anySingle (l : Launch) (D : va_G) (cI cJ : ClassId) (aP : Nat → Nat) (top_P : (Nat → Int32)) (bottom_P : (Nat → Int32)) (r : Int32) (h : f_X0_anySingle top_P bottom_P = some r) : Cti l D cI cJ yX0_anySingle cX0_anySingle 2 (some .boolean) 3 66 [.ref (aP 0)] (wP cI cJ aP top_P bottom_P) (wP cI cJ aP top_P bottom_P) r := by
  refine mk_z [(0, .ref (aP 0))] (by decide) rfl (Nat.le_of_ble_eq_true rfl) rfl (fun p e s m args below meth c A Q C hk => ?_)
  unfold f_X0_anySingle at h
  refine v_iconst (v := 1) C dX0_anySingle_0 (by decide) ?_
  refine v_istore_n C [(1, .int 1), (0, .ref (aP 0))] dX0_anySingle_1 rfl (by decide) rfl ?_
  obtain ⟨r, h1, h⟩ := bind_el h
  refine v_perm [1, 0] rfl ?_
  rcases r with _ | _
  · refine t_X0_anySingle_L2 C (s9 := 1) h1 ?_
    show V p l e (rmO 3 66) s m args below meth c 2 D A 0 0 Q 25 [] [] (wP cI cJ aP top_P bottom_P)
    try dsimp only at h
    refine v_iconst (v := 0) C dX0_anySingle_25 (by decide) ?_
    cases h
    exact hk _ _ dX0_anySingle_26 (Or.inl rfl)
  · refine t_X0_anySingle_L2 C (s9 := 1) h1 ?_
    show V p l e (rmO 3 66) s m args below meth c 2 D A 0 0 Q 17 [] [] (wP cI cJ aP top_P bottom_P)
    try dsimp only at h
    refine v_iconst (v := 1) C dX0_anySingle_17 (by decide) ?_
    cases h
    exact hk _ _ dX0_anySingle_18 (Or.inr rfl)
def f_X0_longNetsAt_B4 (x1 : Int32) (top_P : (Nat → Int32)) (bottom_P : (Nat → Int32)) : (Int32 × Int32) → Option ((Int32 × Int32) ⊕ Int32)
  | (x2, x3) => if 9 < x3 then (some (.inr x2)) else ((f_X0_isLong top_P bottom_P x3).bind (fun r => match r with | r_1 => if r_1 = 0 then (some (.inl (x2, x3 + 1))) else ((f_X0_firstColumn top_P bottom_P x3).bind (fun r => match r with | r_2 => if x1 < r_2 then (some (.inl (x2, x3 + 1))) else ((f_X0_lastColumn top_P bottom_P x3).bind (fun r => match r with | r_3 => if r_3 < x1 then (some (.inl (x2, x3 + 1))) else (some (.inl (x2 + 1, x3 + 1)))))))))
def f_X0_longNetsAt (top_P : (Nat → Int32)) (bottom_P : (Nat → Int32)) (x1 : Int32) : Option Int32 := (lp (f_X0_longNetsAt_B4 x1 top_P bottom_P) 64 (0, 1)).bind (fun r => match r with | x2_4 => some x2_4)
theorem cw_X0_longNetsAt : CWv yX0_longNetsAt cX0_longNetsAt 4 (some .int) RX0 1 := ⟨m1_140, ms1_1, m1_2, m1_141, rfl, by decide, by decide, by decide +kernel⟩
set_option maxHeartbeats 4000000 in
set_option maxRecDepth 100000 in
theorem t_X0_longNetsAt_B4 {p : Program} {l : Launch} {e : Env} {s : State} {m : MethodId} {args : Array Value} {below : List Frame} {meth : Method} {c : Code} {D : va_G} {A : Nat → Prop} {cI cJ : ClassId} {Q : State → Prop} (C : Cx p s m args c cX0_longNetsAt 4 RX0 D A cI cJ) {aP : Nat → Nat} {x1 : Int32} {top_P : (Nat → Int32)} {bottom_P : (Nat → Int32)} (s8 : (Int32 × Int32)) (o8 : (Int32 × Int32) ⊕ Int32) (h : f_X0_longNetsAt_B4 x1 top_P bottom_P s8 = some o8) (hl : ∀ s8, o8 = .inl s8 → V p l e (rmO 4 87) s m args below meth c 4 D A 0 0 Q 4 [(0, .ref (aP 0)), (1, .int x1), (2, .int s8.1), (3, .int s8.2)] [] (wP cI cJ aP top_P bottom_P)) (hx : ∀ r8, o8 = .inr r8 → V p l e (rmO 4 87) s m args below meth c 4 D A 0 0 Q 45 [(2, .int r8)] [] (wP cI cJ aP top_P bottom_P)) : V p l e (rmO 4 87) s m args below meth c 4 D A 0 0 Q 4 [(0, .ref (aP 0)), (1, .int x1), (2, .int s8.1), (3, .int s8.2)] [] (wP cI cJ aP top_P bottom_P) := by
  obtain ⟨x2, x3⟩ := s8
  unfold f_X0_longNetsAt_B4 at h
  show V p l e (rmO 4 87) s m args below meth c 4 D A 0 0 Q 4 [(0, .ref (aP 0)), (1, .int x1), (2, .int x2), (3, .int x3)] [] (wP cI cJ aP top_P bottom_P)
  refine v_iload_n C 3 dX0_longNetsAt_4 rfl rfl ?_
  refine v_bipush (v := 9) C dX0_longNetsAt_5 (by decide) ?_
  refine v_icmp_gt (tgt := 45) C dX0_longNetsAt_7 (by decide) h (fun h => ?_) (fun h => ?_)
  · refine v_perm [2] rfl ?_
    cases h
    exact hx _ rfl
  · refine v_aload_n C 0 dX0_longNetsAt_10 rfl rfl ?_
    refine v_iload_n C 3 dX0_longNetsAt_11 rfl rfl ?_
    obtain ⟨r, h1, h⟩ := bind_el h
    obtain ⟨r_1, rfl⟩ : ∃ z, z = r := ⟨_, rfl⟩
    try dsimp only at h
    refine v_callVi (As := [.int x3]) (st := []) (wr := []) (w1 := (wP cI cJ aP top_P bottom_P)) (ws' := (wP cI cJ aP top_P bottom_P)) (isC := [0, 1, 2]) (isR := []) (pm := [0, 1, 2]) C (c_X0_isLong l D cI cJ aP top_P bottom_P x3 r_1 h1) cw_X0_isLong 0 rfl rfl m1_142 dX0_longNetsAt_12 rfl ⟨Nat.le_of_ble_eq_true rfl, Nat.le_of_ble_eq_true rfl⟩ (Nat.le_of_ble_eq_true rfl) ⟨Nat.le_refl 0, Nat.le_refl 0⟩ ⟨rfl, rfl, rfl, rfl, by decide, rfl, rfl⟩ ?_
    refine v_if_eq (tgt := 39) C dX0_longNetsAt_15 (by decide) h (fun h => ?_) (fun h => ?_)
    · refine v_iinc C [(3, .int (x3 + 1)), (0, .ref (aP 0)), (1, .int x1), (2, .int x2)] 3 dX0_longNetsAt_39 rfl rfl (by decide) rfl ?_
      refine v_goto (tgt := 4) C dX0_longNetsAt_42 (by decide) ?_
      refine v_perm [1, 2, 3, 0] rfl ?_
      cases h
      exact hl _ rfl
    · refine v_aload_n C 0 dX0_longNetsAt_18 rfl rfl ?_
      refine v_iload_n C 3 dX0_longNetsAt_19 rfl rfl ?_
      obtain ⟨r, h1, h⟩ := bind_el h
      obtain ⟨r_2, rfl⟩ : ∃ z, z = r := ⟨_, rfl⟩
      try dsimp only at h
      refine v_callVi (As := [.int x3]) (st := []) (wr := []) (w1 := (wP cI cJ aP top_P bottom_P)) (ws' := (wP cI cJ aP top_P bottom_P)) (isC := [0, 1, 2]) (isR := []) (pm := [0, 1, 2]) C (c_X0_firstColumn l D cI cJ aP top_P bottom_P x3 r_2 h1) cw_X0_firstColumn 0 rfl rfl m1_154 dX0_longNetsAt_20 rfl ⟨Nat.le_of_ble_eq_true rfl, Nat.le_of_ble_eq_true rfl⟩ (Nat.le_of_ble_eq_true rfl) ⟨Nat.le_refl 0, Nat.le_refl 0⟩ ⟨rfl, rfl, rfl, rfl, by decide, rfl, rfl⟩ ?_
      refine v_iload_n C 1 dX0_longNetsAt_23 rfl rfl ?_
      refine v_icmp_gt (tgt := 39) C dX0_longNetsAt_24 (by decide) h (fun h => ?_) (fun h => ?_)
      · refine v_iinc C [(3, .int (x3 + 1)), (0, .ref (aP 0)), (1, .int x1), (2, .int x2)] 3 dX0_longNetsAt_39 rfl rfl (by decide) rfl ?_
        refine v_goto (tgt := 4) C dX0_longNetsAt_42 (by decide) ?_
        refine v_perm [1, 2, 3, 0] rfl ?_
        cases h
        exact hl _ rfl
      · refine v_iload_n C 1 dX0_longNetsAt_27 rfl rfl ?_
        refine v_aload_n C 0 dX0_longNetsAt_28 rfl rfl ?_
        refine v_iload_n C 3 dX0_longNetsAt_29 rfl rfl ?_
        obtain ⟨r, h1, h⟩ := bind_el h
        obtain ⟨r_3, rfl⟩ : ∃ z, z = r := ⟨_, rfl⟩
        try dsimp only at h
        refine v_callVi (As := [.int x3]) (st := [.int x1]) (wr := []) (w1 := (wP cI cJ aP top_P bottom_P)) (ws' := (wP cI cJ aP top_P bottom_P)) (isC := [0, 1, 2]) (isR := []) (pm := [0, 1, 2]) C (c_X0_lastColumn l D cI cJ aP top_P bottom_P x3 r_3 h1) cw_X0_lastColumn 0 rfl rfl m1_162 dX0_longNetsAt_30 rfl ⟨Nat.le_of_ble_eq_true rfl, Nat.le_of_ble_eq_true rfl⟩ (Nat.le_of_ble_eq_true rfl) ⟨Nat.le_refl 0, Nat.le_refl 0⟩ ⟨rfl, rfl, rfl, rfl, by decide, rfl, rfl⟩ ?_
        refine v_icmp_gt (tgt := 39) C dX0_longNetsAt_33 (by decide) h (fun h => ?_) (fun h => ?_)
        · refine v_iinc C [(3, .int (x3 + 1)), (0, .ref (aP 0)), (1, .int x1), (2, .int x2)] 3 dX0_longNetsAt_39 rfl rfl (by decide) rfl ?_
          refine v_goto (tgt := 4) C dX0_longNetsAt_42 (by decide) ?_
          refine v_perm [1, 2, 3, 0] rfl ?_
          cases h
          exact hl _ rfl
        · refine v_iinc C [(2, .int (x2 + 1)), (0, .ref (aP 0)), (1, .int x1), (3, .int x3)] 2 dX0_longNetsAt_36 rfl rfl (by decide) rfl ?_
          refine v_iinc C [(3, .int (x3 + 1)), (2, .int (x2 + 1)), (0, .ref (aP 0)), (1, .int x1)] 3 dX0_longNetsAt_39 rfl rfl (by decide) rfl ?_
          refine v_goto (tgt := 4) C dX0_longNetsAt_42 (by decide) ?_
          refine v_perm [2, 3, 1, 0] rfl ?_
          cases h
          exact hl _ rfl
set_option maxHeartbeats 4000000 in
set_option maxRecDepth 100000 in
theorem t_X0_longNetsAt_L4 {p : Program} {l : Launch} {e : Env} {s : State} {m : MethodId} {args : Array Value} {below : List Frame} {meth : Method} {c : Code} {D : va_G} {A : Nat → Prop} {cI cJ : ClassId} {Q : State → Prop} (C : Cx p s m args c cX0_longNetsAt 4 RX0 D A cI cJ) {aP : Nat → Nat} {x1 : Int32} {top_P : (Nat → Int32)} {bottom_P : (Nat → Int32)} {n8 : Nat} {s9 : (Int32 × Int32)} {o8 : Int32} (h : lp (f_X0_longNetsAt_B4 x1 top_P bottom_P) n8 s9 = some o8) (hk : V p l e (rmO 4 87) s m args below meth c 4 D A 0 0 Q 45 [(2, .int o8)] [] (wP cI cJ aP top_P bottom_P)) : V p l e (rmO 4 87) s m args below meth c 4 D A 0 0 Q 4 [(0, .ref (aP 0)), (1, .int x1), (2, .int s9.1), (3, .int s9.2)] [] (wP cI cJ aP top_P bottom_P) := lp_ok (Pσ := fun s8 => V p l e (rmO 4 87) s m args below meth c 4 D A 0 0 Q 4 [(0, .ref (aP 0)), (1, .int x1), (2, .int s8.1), (3, .int s8.2)] [] (wP cI cJ aP top_P bottom_P)) (Pρ := fun r8 => V p l e (rmO 4 87) s m args below meth c 4 D A 0 0 Q 45 [(2, .int r8)] [] (wP cI cJ aP top_P bottom_P)) (fun s o h hl hx => t_X0_longNetsAt_B4 C s o h hl hx) n8 s9 o8 h hk
set_option maxHeartbeats 4000000 in
set_option maxRecDepth 100000 in
theorem c_X0_longNetsAt (l : Launch) (D : va_G) (cI cJ : ClassId) (aP : Nat → Nat) (top_P : (Nat → Int32)) (bottom_P : (Nat → Int32)) (x1 : Int32) (r : Int32) (h : f_X0_longNetsAt top_P bottom_P x1 = some r) : Cti l D cI cJ yX0_longNetsAt cX0_longNetsAt 4 (some .int) 4 87 [.ref (aP 0), .int x1] (wP cI cJ aP top_P bottom_P) (wP cI cJ aP top_P bottom_P) r := by
  refine mk_i [(0, .ref (aP 0)), (1, .int x1)] (by decide) rfl (Nat.le_of_ble_eq_true rfl) rfl (fun p e s m args below meth c A Q C hk => ?_)
  unfold f_X0_longNetsAt at h
  refine v_iconst (v := 0) C dX0_longNetsAt_0 (by decide) ?_
  refine v_istore_n C [(2, .int 0), (0, .ref (aP 0)), (1, .int x1)] dX0_longNetsAt_1 rfl (by decide) rfl ?_
  refine v_iconst (v := 1) C dX0_longNetsAt_2 (by decide) ?_
  refine v_istore_n C [(3, .int 1), (2, .int 0), (0, .ref (aP 0)), (1, .int x1)] dX0_longNetsAt_3 rfl (by decide) rfl ?_
  obtain ⟨r, h1, h⟩ := bind_el h
  refine v_perm [2, 3, 1, 0] rfl ?_
  obtain ⟨x2_4, rfl⟩ : ∃ z, z = r := ⟨_, rfl⟩
  refine t_X0_longNetsAt_L4 C (s9 := (0, 1)) h1 ?_
  show V p l e (rmO 4 87) s m args below meth c 4 D A 0 0 Q 45 [(2, .int x2_4)] [] (wP cI cJ aP top_P bottom_P)
  try dsimp only at h
  refine v_iload_n C 0 dX0_longNetsAt_45 rfl rfl ?_
  cases h
  exact hk _ _ dX0_longNetsAt_46
def f_X0_put (top_P : (Nat → Int32)) (bottom_P : (Nat → Int32)) (x1 : Int32) (x2 : Int32) (x3 : Int32) : Option (Int32 × (Nat → Int32) × (Nat → Int32)) := if x2 = 0 then (bnd x1 20 (bnd x1 20 (some (bottom_P x1.toNatClampNeg, top_P, upd bottom_P x1.toNatClampNeg x3)))) else (bnd x1 20 (bnd x1 20 (some (top_P x1.toNatClampNeg, upd top_P x1.toNatClampNeg x3, bottom_P))))
theorem cw_X0_put : CWv yX0_put cX0_put 6 (some .int) RX0 3 := ⟨m2_103, ms2_5, m1_2, m2_104, rfl, by decide, by decide, by decide +kernel⟩
set_option maxHeartbeats 4000000 in
set_option maxRecDepth 100000 in
theorem c_X0_put (l : Launch) (D : va_G) (cI cJ : ClassId) (aP : Nat → Nat) (top_P : (Nat → Int32)) (bottom_P : (Nat → Int32)) (x1 : Int32) (x2 : Int32) (x3 : Int32) (r : Int32) (top_P' : (Nat → Int32)) (bottom_P' : (Nat → Int32)) (h : f_X0_put top_P bottom_P x1 x2 x3 = some (r, top_P', bottom_P')) : Cti l D cI cJ yX0_put cX0_put 6 (some .int) 0 0 [.ref (aP 0), .int x1, .int x2, .int x3] (wP cI cJ aP top_P bottom_P) (wP cI cJ aP top_P' bottom_P') r := by
  refine mk_i [(0, .ref (aP 0)), (1, .int x1), (2, .int x2), (3, .int x3)] (by decide) rfl (Nat.le_of_ble_eq_true rfl) rfl (fun p e s m args below meth c A Q C hk => ?_)
  unfold f_X0_put at h
  refine v_iload_n C 2 dX0_put_0 rfl rfl ?_
  refine v_if_eq (tgt := 11) C dX0_put_1 (by decide) h (fun h => ?_) (fun h => ?_)
  · refine v_aload_n C 0 dX0_put_11 rfl rfl ?_
    refine v_get C 0 1 iuX0 rfl rfl (by decide) m1_33 rfl rfl dX0_put_12 ?_
    refine v_astore C [(4, .ref (aP 2)), (0, .ref (aP 0)), (1, .int x1), (2, .int x2), (3, .int x3)] dX0_put_15 (by decide) rfl ?_
    refine v_aload C 0 dX0_put_17 rfl ?_
    refine v_iload_n C 2 dX0_put_19 rfl rfl ?_
    refine v_iald C 2 rfl dX0_put_20 h (fun h => ?_)
    refine v_istore C [(5, .int (bottom_P x1.toNatClampNeg)), (4, .ref (aP 2)), (0, .ref (aP 0)), (1, .int x1), (2, .int x2), (3, .int x3)] dX0_put_21 (by decide) rfl ?_
    refine v_aload C 1 dX0_put_23 rfl ?_
    refine v_iload_n C 3 dX0_put_25 rfl rfl ?_
    refine v_iload_n C 5 dX0_put_26 rfl rfl ?_
    refine v_iast C (wP cI cJ aP top_P (upd bottom_P x1.toNatClampNeg x3)) 2 rfl dX0_put_27 h rfl (fun h => ?_)
    refine v_iload C 0 dX0_put_28 rfl ?_
    cases h
    exact hk _ _ dX0_put_30
  · refine v_aload_n C 0 dX0_put_4 rfl rfl ?_
    refine v_get C 0 0 iuX0 rfl rfl (by decide) m1_30 rfl rfl dX0_put_5 ?_
    refine v_goto (tgt := 15) C dX0_put_8 (by decide) ?_
    refine v_astore C [(4, .ref (aP 1)), (0, .ref (aP 0)), (1, .int x1), (2, .int x2), (3, .int x3)] dX0_put_15 (by decide) rfl ?_
    refine v_aload C 0 dX0_put_17 rfl ?_
    refine v_iload_n C 2 dX0_put_19 rfl rfl ?_
    refine v_iald C 1 rfl dX0_put_20 h (fun h => ?_)
    refine v_istore C [(5, .int (top_P x1.toNatClampNeg)), (4, .ref (aP 1)), (0, .ref (aP 0)), (1, .int x1), (2, .int x2), (3, .int x3)] dX0_put_21 (by decide) rfl ?_
    refine v_aload C 1 dX0_put_23 rfl ?_
    refine v_iload_n C 3 dX0_put_25 rfl rfl ?_
    refine v_iload_n C 5 dX0_put_26 rfl rfl ?_
    refine v_iast C (wP cI cJ aP (upd top_P x1.toNatClampNeg x3) bottom_P) 1 rfl dX0_put_27 h rfl (fun h => ?_)
    refine v_iload C 0 dX0_put_28 rfl ?_
    cases h
    exact hk _ _ dX0_put_30
end
section
def f_J13_bitCount_95d88 (x0 : Int64) : Option Int32 := some ((((((((((x0 - (((x0.toUInt64 >>> ((1 : Int32).toInt64.toUInt64 &&& Int64.toUInt64 63)).toInt64) &&& 6148914691236517205)) &&& 3689348814741910323) + ((((x0 - (((x0.toUInt64 >>> ((1 : Int32).toInt64.toUInt64 &&& Int64.toUInt64 63)).toInt64) &&& 6148914691236517205)).toUInt64 >>> ((2 : Int32).toInt64.toUInt64 &&& Int64.toUInt64 63)).toInt64) &&& 3689348814741910323)) + (((((x0 - (((x0.toUInt64 >>> ((1 : Int32).toInt64.toUInt64 &&& Int64.toUInt64 63)).toInt64) &&& 6148914691236517205)) &&& 3689348814741910323) + ((((x0 - (((x0.toUInt64 >>> ((1 : Int32).toInt64.toUInt64 &&& Int64.toUInt64 63)).toInt64) &&& 6148914691236517205)).toUInt64 >>> ((2 : Int32).toInt64.toUInt64 &&& Int64.toUInt64 63)).toInt64) &&& 3689348814741910323)).toUInt64 >>> ((4 : Int32).toInt64.toUInt64 &&& Int64.toUInt64 63)).toInt64)) &&& 1085102592571150095) + (((((((x0 - (((x0.toUInt64 >>> ((1 : Int32).toInt64.toUInt64 &&& Int64.toUInt64 63)).toInt64) &&& 6148914691236517205)) &&& 3689348814741910323) + ((((x0 - (((x0.toUInt64 >>> ((1 : Int32).toInt64.toUInt64 &&& Int64.toUInt64 63)).toInt64) &&& 6148914691236517205)).toUInt64 >>> ((2 : Int32).toInt64.toUInt64 &&& Int64.toUInt64 63)).toInt64) &&& 3689348814741910323)) + (((((x0 - (((x0.toUInt64 >>> ((1 : Int32).toInt64.toUInt64 &&& Int64.toUInt64 63)).toInt64) &&& 6148914691236517205)) &&& 3689348814741910323) + ((((x0 - (((x0.toUInt64 >>> ((1 : Int32).toInt64.toUInt64 &&& Int64.toUInt64 63)).toInt64) &&& 6148914691236517205)).toUInt64 >>> ((2 : Int32).toInt64.toUInt64 &&& Int64.toUInt64 63)).toInt64) &&& 3689348814741910323)).toUInt64 >>> ((4 : Int32).toInt64.toUInt64 &&& Int64.toUInt64 63)).toInt64)) &&& 1085102592571150095).toUInt64 >>> ((8 : Int32).toInt64.toUInt64 &&& Int64.toUInt64 63)).toInt64)) + ((((((((x0 - (((x0.toUInt64 >>> ((1 : Int32).toInt64.toUInt64 &&& Int64.toUInt64 63)).toInt64) &&& 6148914691236517205)) &&& 3689348814741910323) + ((((x0 - (((x0.toUInt64 >>> ((1 : Int32).toInt64.toUInt64 &&& Int64.toUInt64 63)).toInt64) &&& 6148914691236517205)).toUInt64 >>> ((2 : Int32).toInt64.toUInt64 &&& Int64.toUInt64 63)).toInt64) &&& 3689348814741910323)) + (((((x0 - (((x0.toUInt64 >>> ((1 : Int32).toInt64.toUInt64 &&& Int64.toUInt64 63)).toInt64) &&& 6148914691236517205)) &&& 3689348814741910323) + ((((x0 - (((x0.toUInt64 >>> ((1 : Int32).toInt64.toUInt64 &&& Int64.toUInt64 63)).toInt64) &&& 6148914691236517205)).toUInt64 >>> ((2 : Int32).toInt64.toUInt64 &&& Int64.toUInt64 63)).toInt64) &&& 3689348814741910323)).toUInt64 >>> ((4 : Int32).toInt64.toUInt64 &&& Int64.toUInt64 63)).toInt64)) &&& 1085102592571150095) + (((((((x0 - (((x0.toUInt64 >>> ((1 : Int32).toInt64.toUInt64 &&& Int64.toUInt64 63)).toInt64) &&& 6148914691236517205)) &&& 3689348814741910323) + ((((x0 - (((x0.toUInt64 >>> ((1 : Int32).toInt64.toUInt64 &&& Int64.toUInt64 63)).toInt64) &&& 6148914691236517205)).toUInt64 >>> ((2 : Int32).toInt64.toUInt64 &&& Int64.toUInt64 63)).toInt64) &&& 3689348814741910323)) + (((((x0 - (((x0.toUInt64 >>> ((1 : Int32).toInt64.toUInt64 &&& Int64.toUInt64 63)).toInt64) &&& 6148914691236517205)) &&& 3689348814741910323) + ((((x0 - (((x0.toUInt64 >>> ((1 : Int32).toInt64.toUInt64 &&& Int64.toUInt64 63)).toInt64) &&& 6148914691236517205)).toUInt64 >>> ((2 : Int32).toInt64.toUInt64 &&& Int64.toUInt64 63)).toInt64) &&& 3689348814741910323)).toUInt64 >>> ((4 : Int32).toInt64.toUInt64 &&& Int64.toUInt64 63)).toInt64)) &&& 1085102592571150095).toUInt64 >>> ((8 : Int32).toInt64.toUInt64 &&& Int64.toUInt64 63)).toInt64)).toUInt64 >>> ((16 : Int32).toInt64.toUInt64 &&& Int64.toUInt64 63)).toInt64)) + (((((((((x0 - (((x0.toUInt64 >>> ((1 : Int32).toInt64.toUInt64 &&& Int64.toUInt64 63)).toInt64) &&& 6148914691236517205)) &&& 3689348814741910323) + ((((x0 - (((x0.toUInt64 >>> ((1 : Int32).toInt64.toUInt64 &&& Int64.toUInt64 63)).toInt64) &&& 6148914691236517205)).toUInt64 >>> ((2 : Int32).toInt64.toUInt64 &&& Int64.toUInt64 63)).toInt64) &&& 3689348814741910323)) + (((((x0 - (((x0.toUInt64 >>> ((1 : Int32).toInt64.toUInt64 &&& Int64.toUInt64 63)).toInt64) &&& 6148914691236517205)) &&& 3689348814741910323) + ((((x0 - (((x0.toUInt64 >>> ((1 : Int32).toInt64.toUInt64 &&& Int64.toUInt64 63)).toInt64) &&& 6148914691236517205)).toUInt64 >>> ((2 : Int32).toInt64.toUInt64 &&& Int64.toUInt64 63)).toInt64) &&& 3689348814741910323)).toUInt64 >>> ((4 : Int32).toInt64.toUInt64 &&& Int64.toUInt64 63)).toInt64)) &&& 1085102592571150095) + (((((((x0 - (((x0.toUInt64 >>> ((1 : Int32).toInt64.toUInt64 &&& Int64.toUInt64 63)).toInt64) &&& 6148914691236517205)) &&& 3689348814741910323) + ((((x0 - (((x0.toUInt64 >>> ((1 : Int32).toInt64.toUInt64 &&& Int64.toUInt64 63)).toInt64) &&& 6148914691236517205)).toUInt64 >>> ((2 : Int32).toInt64.toUInt64 &&& Int64.toUInt64 63)).toInt64) &&& 3689348814741910323)) + (((((x0 - (((x0.toUInt64 >>> ((1 : Int32).toInt64.toUInt64 &&& Int64.toUInt64 63)).toInt64) &&& 6148914691236517205)) &&& 3689348814741910323) + ((((x0 - (((x0.toUInt64 >>> ((1 : Int32).toInt64.toUInt64 &&& Int64.toUInt64 63)).toInt64) &&& 6148914691236517205)).toUInt64 >>> ((2 : Int32).toInt64.toUInt64 &&& Int64.toUInt64 63)).toInt64) &&& 3689348814741910323)).toUInt64 >>> ((4 : Int32).toInt64.toUInt64 &&& Int64.toUInt64 63)).toInt64)) &&& 1085102592571150095).toUInt64 >>> ((8 : Int32).toInt64.toUInt64 &&& Int64.toUInt64 63)).toInt64)) + ((((((((x0 - (((x0.toUInt64 >>> ((1 : Int32).toInt64.toUInt64 &&& Int64.toUInt64 63)).toInt64) &&& 6148914691236517205)) &&& 3689348814741910323) + ((((x0 - (((x0.toUInt64 >>> ((1 : Int32).toInt64.toUInt64 &&& Int64.toUInt64 63)).toInt64) &&& 6148914691236517205)).toUInt64 >>> ((2 : Int32).toInt64.toUInt64 &&& Int64.toUInt64 63)).toInt64) &&& 3689348814741910323)) + (((((x0 - (((x0.toUInt64 >>> ((1 : Int32).toInt64.toUInt64 &&& Int64.toUInt64 63)).toInt64) &&& 6148914691236517205)) &&& 3689348814741910323) + ((((x0 - (((x0.toUInt64 >>> ((1 : Int32).toInt64.toUInt64 &&& Int64.toUInt64 63)).toInt64) &&& 6148914691236517205)).toUInt64 >>> ((2 : Int32).toInt64.toUInt64 &&& Int64.toUInt64 63)).toInt64) &&& 3689348814741910323)).toUInt64 >>> ((4 : Int32).toInt64.toUInt64 &&& Int64.toUInt64 63)).toInt64)) &&& 1085102592571150095) + (((((((x0 - (((x0.toUInt64 >>> ((1 : Int32).toInt64.toUInt64 &&& Int64.toUInt64 63)).toInt64) &&& 6148914691236517205)) &&& 3689348814741910323) + ((((x0 - (((x0.toUInt64 >>> ((1 : Int32).toInt64.toUInt64 &&& Int64.toUInt64 63)).toInt64) &&& 6148914691236517205)).toUInt64 >>> ((2 : Int32).toInt64.toUInt64 &&& Int64.toUInt64 63)).toInt64) &&& 3689348814741910323)) + (((((x0 - (((x0.toUInt64 >>> ((1 : Int32).toInt64.toUInt64 &&& Int64.toUInt64 63)).toInt64) &&& 6148914691236517205)) &&& 3689348814741910323) + ((((x0 - (((x0.toUInt64 >>> ((1 : Int32).toInt64.toUInt64 &&& Int64.toUInt64 63)).toInt64) &&& 6148914691236517205)).toUInt64 >>> ((2 : Int32).toInt64.toUInt64 &&& Int64.toUInt64 63)).toInt64) &&& 3689348814741910323)).toUInt64 >>> ((4 : Int32).toInt64.toUInt64 &&& Int64.toUInt64 63)).toInt64)) &&& 1085102592571150095).toUInt64 >>> ((8 : Int32).toInt64.toUInt64 &&& Int64.toUInt64 63)).toInt64)).toUInt64 >>> ((16 : Int32).toInt64.toUInt64 &&& Int64.toUInt64 63)).toInt64)).toUInt64 >>> ((32 : Int32).toInt64.toUInt64 &&& Int64.toUInt64 63)).toInt64)).toInt32) &&& 127)
theorem cw_J13_bitCount_95d88 : CWs yJ13_bitCount_95d88 cJ13_bitCount_95d88 2 (some .int) 1 := ⟨m1_224, m1_15, m1_225, by decide, by decide, by decide +kernel⟩
set_option maxHeartbeats 4000000 in
set_option maxRecDepth 100000 in
theorem c_J13_bitCount_95d88 (l : Launch) (D : va_G) (cI cJ : ClassId) (x0 : Int64) (r : Int32) (h : f_J13_bitCount_95d88 x0 = some r) : Cti l D cI cJ yJ13_bitCount_95d88 cJ13_bitCount_95d88 2 (some .int) 0 0 [.long x0] [] [] r := by
  refine mk_i [(0, .long x0)] (by decide) rfl (Nat.le_of_ble_eq_true rfl) rfl (fun p e s m args below meth c A Q C hk => ?_)
  unfold f_J13_bitCount_95d88 at h
  refine v_lload_n C 0 dJ13_bitCount_95d88_0 rfl rfl ?_
  refine v_lload_n C 0 dJ13_bitCount_95d88_1 rfl rfl ?_
  refine v_iconst (v := 1) C dJ13_bitCount_95d88_2 (by decide) ?_
  refine v_lushr C dJ13_bitCount_95d88_3 ?_
  refine v_ldc2 (v := 6148914691236517205) C m1_226 dJ13_bitCount_95d88_4 ?_
  refine v_land C dJ13_bitCount_95d88_7 ?_
  refine v_lsub C dJ13_bitCount_95d88_8 ?_
  refine v_lstore_n C [(0, .long (x0 - (((x0.toUInt64 >>> ((1 : Int32).toInt64.toUInt64 &&& Int64.toUInt64 63)).toInt64) &&& 6148914691236517205)))] dJ13_bitCount_95d88_9 rfl (by decide) rfl ?_
  refine v_lload_n C 0 dJ13_bitCount_95d88_10 rfl rfl ?_
  refine v_ldc2 (v := 3689348814741910323) C m1_227 dJ13_bitCount_95d88_11 ?_
  refine v_land C dJ13_bitCount_95d88_14 ?_
  refine v_lload_n C 0 dJ13_bitCount_95d88_15 rfl rfl ?_
  refine v_iconst (v := 2) C dJ13_bitCount_95d88_16 (by decide) ?_
  refine v_lushr C dJ13_bitCount_95d88_17 ?_
  refine v_ldc2 (v := 3689348814741910323) C m1_227 dJ13_bitCount_95d88_18 ?_
  refine v_land C dJ13_bitCount_95d88_21 ?_
  refine v_ladd C dJ13_bitCount_95d88_22 ?_
  refine v_lstore_n C [(0, .long (((x0 - (((x0.toUInt64 >>> ((1 : Int32).toInt64.toUInt64 &&& Int64.toUInt64 63)).toInt64) &&& 6148914691236517205)) &&& 3689348814741910323) + ((((x0 - (((x0.toUInt64 >>> ((1 : Int32).toInt64.toUInt64 &&& Int64.toUInt64 63)).toInt64) &&& 6148914691236517205)).toUInt64 >>> ((2 : Int32).toInt64.toUInt64 &&& Int64.toUInt64 63)).toInt64) &&& 3689348814741910323)))] dJ13_bitCount_95d88_23 rfl (by decide) rfl ?_
  refine v_lload_n C 0 dJ13_bitCount_95d88_24 rfl rfl ?_
  refine v_lload_n C 0 dJ13_bitCount_95d88_25 rfl rfl ?_
  refine v_iconst (v := 4) C dJ13_bitCount_95d88_26 (by decide) ?_
  refine v_lushr C dJ13_bitCount_95d88_27 ?_
  refine v_ladd C dJ13_bitCount_95d88_28 ?_
  refine v_ldc2 (v := 1085102592571150095) C m1_228 dJ13_bitCount_95d88_29 ?_
  refine v_land C dJ13_bitCount_95d88_32 ?_
  refine v_lstore_n C [(0, .long (((((x0 - (((x0.toUInt64 >>> ((1 : Int32).toInt64.toUInt64 &&& Int64.toUInt64 63)).toInt64) &&& 6148914691236517205)) &&& 3689348814741910323) + ((((x0 - (((x0.toUInt64 >>> ((1 : Int32).toInt64.toUInt64 &&& Int64.toUInt64 63)).toInt64) &&& 6148914691236517205)).toUInt64 >>> ((2 : Int32).toInt64.toUInt64 &&& Int64.toUInt64 63)).toInt64) &&& 3689348814741910323)) + (((((x0 - (((x0.toUInt64 >>> ((1 : Int32).toInt64.toUInt64 &&& Int64.toUInt64 63)).toInt64) &&& 6148914691236517205)) &&& 3689348814741910323) + ((((x0 - (((x0.toUInt64 >>> ((1 : Int32).toInt64.toUInt64 &&& Int64.toUInt64 63)).toInt64) &&& 6148914691236517205)).toUInt64 >>> ((2 : Int32).toInt64.toUInt64 &&& Int64.toUInt64 63)).toInt64) &&& 3689348814741910323)).toUInt64 >>> ((4 : Int32).toInt64.toUInt64 &&& Int64.toUInt64 63)).toInt64)) &&& 1085102592571150095))] dJ13_bitCount_95d88_33 rfl (by decide) rfl ?_
  refine v_lload_n C 0 dJ13_bitCount_95d88_34 rfl rfl ?_
  refine v_lload_n C 0 dJ13_bitCount_95d88_35 rfl rfl ?_
  refine v_bipush (v := 8) C dJ13_bitCount_95d88_36 (by decide) ?_
  refine v_lushr C dJ13_bitCount_95d88_38 ?_
  refine v_ladd C dJ13_bitCount_95d88_39 ?_
  refine v_lstore_n C [(0, .long ((((((x0 - (((x0.toUInt64 >>> ((1 : Int32).toInt64.toUInt64 &&& Int64.toUInt64 63)).toInt64) &&& 6148914691236517205)) &&& 3689348814741910323) + ((((x0 - (((x0.toUInt64 >>> ((1 : Int32).toInt64.toUInt64 &&& Int64.toUInt64 63)).toInt64) &&& 6148914691236517205)).toUInt64 >>> ((2 : Int32).toInt64.toUInt64 &&& Int64.toUInt64 63)).toInt64) &&& 3689348814741910323)) + (((((x0 - (((x0.toUInt64 >>> ((1 : Int32).toInt64.toUInt64 &&& Int64.toUInt64 63)).toInt64) &&& 6148914691236517205)) &&& 3689348814741910323) + ((((x0 - (((x0.toUInt64 >>> ((1 : Int32).toInt64.toUInt64 &&& Int64.toUInt64 63)).toInt64) &&& 6148914691236517205)).toUInt64 >>> ((2 : Int32).toInt64.toUInt64 &&& Int64.toUInt64 63)).toInt64) &&& 3689348814741910323)).toUInt64 >>> ((4 : Int32).toInt64.toUInt64 &&& Int64.toUInt64 63)).toInt64)) &&& 1085102592571150095) + (((((((x0 - (((x0.toUInt64 >>> ((1 : Int32).toInt64.toUInt64 &&& Int64.toUInt64 63)).toInt64) &&& 6148914691236517205)) &&& 3689348814741910323) + ((((x0 - (((x0.toUInt64 >>> ((1 : Int32).toInt64.toUInt64 &&& Int64.toUInt64 63)).toInt64) &&& 6148914691236517205)).toUInt64 >>> ((2 : Int32).toInt64.toUInt64 &&& Int64.toUInt64 63)).toInt64) &&& 3689348814741910323)) + (((((x0 - (((x0.toUInt64 >>> ((1 : Int32).toInt64.toUInt64 &&& Int64.toUInt64 63)).toInt64) &&& 6148914691236517205)) &&& 3689348814741910323) + ((((x0 - (((x0.toUInt64 >>> ((1 : Int32).toInt64.toUInt64 &&& Int64.toUInt64 63)).toInt64) &&& 6148914691236517205)).toUInt64 >>> ((2 : Int32).toInt64.toUInt64 &&& Int64.toUInt64 63)).toInt64) &&& 3689348814741910323)).toUInt64 >>> ((4 : Int32).toInt64.toUInt64 &&& Int64.toUInt64 63)).toInt64)) &&& 1085102592571150095).toUInt64 >>> ((8 : Int32).toInt64.toUInt64 &&& Int64.toUInt64 63)).toInt64)))] dJ13_bitCount_95d88_40 rfl (by decide) rfl ?_
  refine v_lload_n C 0 dJ13_bitCount_95d88_41 rfl rfl ?_
  refine v_lload_n C 0 dJ13_bitCount_95d88_42 rfl rfl ?_
  refine v_bipush (v := 16) C dJ13_bitCount_95d88_43 (by decide) ?_
  refine v_lushr C dJ13_bitCount_95d88_45 ?_
  refine v_ladd C dJ13_bitCount_95d88_46 ?_
  refine v_lstore_n C [(0, .long (((((((x0 - (((x0.toUInt64 >>> ((1 : Int32).toInt64.toUInt64 &&& Int64.toUInt64 63)).toInt64) &&& 6148914691236517205)) &&& 3689348814741910323) + ((((x0 - (((x0.toUInt64 >>> ((1 : Int32).toInt64.toUInt64 &&& Int64.toUInt64 63)).toInt64) &&& 6148914691236517205)).toUInt64 >>> ((2 : Int32).toInt64.toUInt64 &&& Int64.toUInt64 63)).toInt64) &&& 3689348814741910323)) + (((((x0 - (((x0.toUInt64 >>> ((1 : Int32).toInt64.toUInt64 &&& Int64.toUInt64 63)).toInt64) &&& 6148914691236517205)) &&& 3689348814741910323) + ((((x0 - (((x0.toUInt64 >>> ((1 : Int32).toInt64.toUInt64 &&& Int64.toUInt64 63)).toInt64) &&& 6148914691236517205)).toUInt64 >>> ((2 : Int32).toInt64.toUInt64 &&& Int64.toUInt64 63)).toInt64) &&& 3689348814741910323)).toUInt64 >>> ((4 : Int32).toInt64.toUInt64 &&& Int64.toUInt64 63)).toInt64)) &&& 1085102592571150095) + (((((((x0 - (((x0.toUInt64 >>> ((1 : Int32).toInt64.toUInt64 &&& Int64.toUInt64 63)).toInt64) &&& 6148914691236517205)) &&& 3689348814741910323) + ((((x0 - (((x0.toUInt64 >>> ((1 : Int32).toInt64.toUInt64 &&& Int64.toUInt64 63)).toInt64) &&& 6148914691236517205)).toUInt64 >>> ((2 : Int32).toInt64.toUInt64 &&& Int64.toUInt64 63)).toInt64) &&& 3689348814741910323)) + (((((x0 - (((x0.toUInt64 >>> ((1 : Int32).toInt64.toUInt64 &&& Int64.toUInt64 63)).toInt64) &&& 6148914691236517205)) &&& 3689348814741910323) + ((((x0 - (((x0.toUInt64 >>> ((1 : Int32).toInt64.toUInt64 &&& Int64.toUInt64 63)).toInt64) &&& 6148914691236517205)).toUInt64 >>> ((2 : Int32).toInt64.toUInt64 &&& Int64.toUInt64 63)).toInt64) &&& 3689348814741910323)).toUInt64 >>> ((4 : Int32).toInt64.toUInt64 &&& Int64.toUInt64 63)).toInt64)) &&& 1085102592571150095).toUInt64 >>> ((8 : Int32).toInt64.toUInt64 &&& Int64.toUInt64 63)).toInt64)) + ((((((((x0 - (((x0.toUInt64 >>> ((1 : Int32).toInt64.toUInt64 &&& Int64.toUInt64 63)).toInt64) &&& 6148914691236517205)) &&& 3689348814741910323) + ((((x0 - (((x0.toUInt64 >>> ((1 : Int32).toInt64.toUInt64 &&& Int64.toUInt64 63)).toInt64) &&& 6148914691236517205)).toUInt64 >>> ((2 : Int32).toInt64.toUInt64 &&& Int64.toUInt64 63)).toInt64) &&& 3689348814741910323)) + (((((x0 - (((x0.toUInt64 >>> ((1 : Int32).toInt64.toUInt64 &&& Int64.toUInt64 63)).toInt64) &&& 6148914691236517205)) &&& 3689348814741910323) + ((((x0 - (((x0.toUInt64 >>> ((1 : Int32).toInt64.toUInt64 &&& Int64.toUInt64 63)).toInt64) &&& 6148914691236517205)).toUInt64 >>> ((2 : Int32).toInt64.toUInt64 &&& Int64.toUInt64 63)).toInt64) &&& 3689348814741910323)).toUInt64 >>> ((4 : Int32).toInt64.toUInt64 &&& Int64.toUInt64 63)).toInt64)) &&& 1085102592571150095) + (((((((x0 - (((x0.toUInt64 >>> ((1 : Int32).toInt64.toUInt64 &&& Int64.toUInt64 63)).toInt64) &&& 6148914691236517205)) &&& 3689348814741910323) + ((((x0 - (((x0.toUInt64 >>> ((1 : Int32).toInt64.toUInt64 &&& Int64.toUInt64 63)).toInt64) &&& 6148914691236517205)).toUInt64 >>> ((2 : Int32).toInt64.toUInt64 &&& Int64.toUInt64 63)).toInt64) &&& 3689348814741910323)) + (((((x0 - (((x0.toUInt64 >>> ((1 : Int32).toInt64.toUInt64 &&& Int64.toUInt64 63)).toInt64) &&& 6148914691236517205)) &&& 3689348814741910323) + ((((x0 - (((x0.toUInt64 >>> ((1 : Int32).toInt64.toUInt64 &&& Int64.toUInt64 63)).toInt64) &&& 6148914691236517205)).toUInt64 >>> ((2 : Int32).toInt64.toUInt64 &&& Int64.toUInt64 63)).toInt64) &&& 3689348814741910323)).toUInt64 >>> ((4 : Int32).toInt64.toUInt64 &&& Int64.toUInt64 63)).toInt64)) &&& 1085102592571150095).toUInt64 >>> ((8 : Int32).toInt64.toUInt64 &&& Int64.toUInt64 63)).toInt64)).toUInt64 >>> ((16 : Int32).toInt64.toUInt64 &&& Int64.toUInt64 63)).toInt64)))] dJ13_bitCount_95d88_47 rfl (by decide) rfl ?_
  refine v_lload_n C 0 dJ13_bitCount_95d88_48 rfl rfl ?_
  refine v_lload_n C 0 dJ13_bitCount_95d88_49 rfl rfl ?_
  refine v_bipush (v := 32) C dJ13_bitCount_95d88_50 (by decide) ?_
  refine v_lushr C dJ13_bitCount_95d88_52 ?_
  refine v_ladd C dJ13_bitCount_95d88_53 ?_
  refine v_lstore_n C [(0, .long ((((((((x0 - (((x0.toUInt64 >>> ((1 : Int32).toInt64.toUInt64 &&& Int64.toUInt64 63)).toInt64) &&& 6148914691236517205)) &&& 3689348814741910323) + ((((x0 - (((x0.toUInt64 >>> ((1 : Int32).toInt64.toUInt64 &&& Int64.toUInt64 63)).toInt64) &&& 6148914691236517205)).toUInt64 >>> ((2 : Int32).toInt64.toUInt64 &&& Int64.toUInt64 63)).toInt64) &&& 3689348814741910323)) + (((((x0 - (((x0.toUInt64 >>> ((1 : Int32).toInt64.toUInt64 &&& Int64.toUInt64 63)).toInt64) &&& 6148914691236517205)) &&& 3689348814741910323) + ((((x0 - (((x0.toUInt64 >>> ((1 : Int32).toInt64.toUInt64 &&& Int64.toUInt64 63)).toInt64) &&& 6148914691236517205)).toUInt64 >>> ((2 : Int32).toInt64.toUInt64 &&& Int64.toUInt64 63)).toInt64) &&& 3689348814741910323)).toUInt64 >>> ((4 : Int32).toInt64.toUInt64 &&& Int64.toUInt64 63)).toInt64)) &&& 1085102592571150095) + (((((((x0 - (((x0.toUInt64 >>> ((1 : Int32).toInt64.toUInt64 &&& Int64.toUInt64 63)).toInt64) &&& 6148914691236517205)) &&& 3689348814741910323) + ((((x0 - (((x0.toUInt64 >>> ((1 : Int32).toInt64.toUInt64 &&& Int64.toUInt64 63)).toInt64) &&& 6148914691236517205)).toUInt64 >>> ((2 : Int32).toInt64.toUInt64 &&& Int64.toUInt64 63)).toInt64) &&& 3689348814741910323)) + (((((x0 - (((x0.toUInt64 >>> ((1 : Int32).toInt64.toUInt64 &&& Int64.toUInt64 63)).toInt64) &&& 6148914691236517205)) &&& 3689348814741910323) + ((((x0 - (((x0.toUInt64 >>> ((1 : Int32).toInt64.toUInt64 &&& Int64.toUInt64 63)).toInt64) &&& 6148914691236517205)).toUInt64 >>> ((2 : Int32).toInt64.toUInt64 &&& Int64.toUInt64 63)).toInt64) &&& 3689348814741910323)).toUInt64 >>> ((4 : Int32).toInt64.toUInt64 &&& Int64.toUInt64 63)).toInt64)) &&& 1085102592571150095).toUInt64 >>> ((8 : Int32).toInt64.toUInt64 &&& Int64.toUInt64 63)).toInt64)) + ((((((((x0 - (((x0.toUInt64 >>> ((1 : Int32).toInt64.toUInt64 &&& Int64.toUInt64 63)).toInt64) &&& 6148914691236517205)) &&& 3689348814741910323) + ((((x0 - (((x0.toUInt64 >>> ((1 : Int32).toInt64.toUInt64 &&& Int64.toUInt64 63)).toInt64) &&& 6148914691236517205)).toUInt64 >>> ((2 : Int32).toInt64.toUInt64 &&& Int64.toUInt64 63)).toInt64) &&& 3689348814741910323)) + (((((x0 - (((x0.toUInt64 >>> ((1 : Int32).toInt64.toUInt64 &&& Int64.toUInt64 63)).toInt64) &&& 6148914691236517205)) &&& 3689348814741910323) + ((((x0 - (((x0.toUInt64 >>> ((1 : Int32).toInt64.toUInt64 &&& Int64.toUInt64 63)).toInt64) &&& 6148914691236517205)).toUInt64 >>> ((2 : Int32).toInt64.toUInt64 &&& Int64.toUInt64 63)).toInt64) &&& 3689348814741910323)).toUInt64 >>> ((4 : Int32).toInt64.toUInt64 &&& Int64.toUInt64 63)).toInt64)) &&& 1085102592571150095) + (((((((x0 - (((x0.toUInt64 >>> ((1 : Int32).toInt64.toUInt64 &&& Int64.toUInt64 63)).toInt64) &&& 6148914691236517205)) &&& 3689348814741910323) + ((((x0 - (((x0.toUInt64 >>> ((1 : Int32).toInt64.toUInt64 &&& Int64.toUInt64 63)).toInt64) &&& 6148914691236517205)).toUInt64 >>> ((2 : Int32).toInt64.toUInt64 &&& Int64.toUInt64 63)).toInt64) &&& 3689348814741910323)) + (((((x0 - (((x0.toUInt64 >>> ((1 : Int32).toInt64.toUInt64 &&& Int64.toUInt64 63)).toInt64) &&& 6148914691236517205)) &&& 3689348814741910323) + ((((x0 - (((x0.toUInt64 >>> ((1 : Int32).toInt64.toUInt64 &&& Int64.toUInt64 63)).toInt64) &&& 6148914691236517205)).toUInt64 >>> ((2 : Int32).toInt64.toUInt64 &&& Int64.toUInt64 63)).toInt64) &&& 3689348814741910323)).toUInt64 >>> ((4 : Int32).toInt64.toUInt64 &&& Int64.toUInt64 63)).toInt64)) &&& 1085102592571150095).toUInt64 >>> ((8 : Int32).toInt64.toUInt64 &&& Int64.toUInt64 63)).toInt64)).toUInt64 >>> ((16 : Int32).toInt64.toUInt64 &&& Int64.toUInt64 63)).toInt64)) + (((((((((x0 - (((x0.toUInt64 >>> ((1 : Int32).toInt64.toUInt64 &&& Int64.toUInt64 63)).toInt64) &&& 6148914691236517205)) &&& 3689348814741910323) + ((((x0 - (((x0.toUInt64 >>> ((1 : Int32).toInt64.toUInt64 &&& Int64.toUInt64 63)).toInt64) &&& 6148914691236517205)).toUInt64 >>> ((2 : Int32).toInt64.toUInt64 &&& Int64.toUInt64 63)).toInt64) &&& 3689348814741910323)) + (((((x0 - (((x0.toUInt64 >>> ((1 : Int32).toInt64.toUInt64 &&& Int64.toUInt64 63)).toInt64) &&& 6148914691236517205)) &&& 3689348814741910323) + ((((x0 - (((x0.toUInt64 >>> ((1 : Int32).toInt64.toUInt64 &&& Int64.toUInt64 63)).toInt64) &&& 6148914691236517205)).toUInt64 >>> ((2 : Int32).toInt64.toUInt64 &&& Int64.toUInt64 63)).toInt64) &&& 3689348814741910323)).toUInt64 >>> ((4 : Int32).toInt64.toUInt64 &&& Int64.toUInt64 63)).toInt64)) &&& 1085102592571150095) + (((((((x0 - (((x0.toUInt64 >>> ((1 : Int32).toInt64.toUInt64 &&& Int64.toUInt64 63)).toInt64) &&& 6148914691236517205)) &&& 3689348814741910323) + ((((x0 - (((x0.toUInt64 >>> ((1 : Int32).toInt64.toUInt64 &&& Int64.toUInt64 63)).toInt64) &&& 6148914691236517205)).toUInt64 >>> ((2 : Int32).toInt64.toUInt64 &&& Int64.toUInt64 63)).toInt64) &&& 3689348814741910323)) + (((((x0 - (((x0.toUInt64 >>> ((1 : Int32).toInt64.toUInt64 &&& Int64.toUInt64 63)).toInt64) &&& 6148914691236517205)) &&& 3689348814741910323) + ((((x0 - (((x0.toUInt64 >>> ((1 : Int32).toInt64.toUInt64 &&& Int64.toUInt64 63)).toInt64) &&& 6148914691236517205)).toUInt64 >>> ((2 : Int32).toInt64.toUInt64 &&& Int64.toUInt64 63)).toInt64) &&& 3689348814741910323)).toUInt64 >>> ((4 : Int32).toInt64.toUInt64 &&& Int64.toUInt64 63)).toInt64)) &&& 1085102592571150095).toUInt64 >>> ((8 : Int32).toInt64.toUInt64 &&& Int64.toUInt64 63)).toInt64)) + ((((((((x0 - (((x0.toUInt64 >>> ((1 : Int32).toInt64.toUInt64 &&& Int64.toUInt64 63)).toInt64) &&& 6148914691236517205)) &&& 3689348814741910323) + ((((x0 - (((x0.toUInt64 >>> ((1 : Int32).toInt64.toUInt64 &&& Int64.toUInt64 63)).toInt64) &&& 6148914691236517205)).toUInt64 >>> ((2 : Int32).toInt64.toUInt64 &&& Int64.toUInt64 63)).toInt64) &&& 3689348814741910323)) + (((((x0 - (((x0.toUInt64 >>> ((1 : Int32).toInt64.toUInt64 &&& Int64.toUInt64 63)).toInt64) &&& 6148914691236517205)) &&& 3689348814741910323) + ((((x0 - (((x0.toUInt64 >>> ((1 : Int32).toInt64.toUInt64 &&& Int64.toUInt64 63)).toInt64) &&& 6148914691236517205)).toUInt64 >>> ((2 : Int32).toInt64.toUInt64 &&& Int64.toUInt64 63)).toInt64) &&& 3689348814741910323)).toUInt64 >>> ((4 : Int32).toInt64.toUInt64 &&& Int64.toUInt64 63)).toInt64)) &&& 1085102592571150095) + (((((((x0 - (((x0.toUInt64 >>> ((1 : Int32).toInt64.toUInt64 &&& Int64.toUInt64 63)).toInt64) &&& 6148914691236517205)) &&& 3689348814741910323) + ((((x0 - (((x0.toUInt64 >>> ((1 : Int32).toInt64.toUInt64 &&& Int64.toUInt64 63)).toInt64) &&& 6148914691236517205)).toUInt64 >>> ((2 : Int32).toInt64.toUInt64 &&& Int64.toUInt64 63)).toInt64) &&& 3689348814741910323)) + (((((x0 - (((x0.toUInt64 >>> ((1 : Int32).toInt64.toUInt64 &&& Int64.toUInt64 63)).toInt64) &&& 6148914691236517205)) &&& 3689348814741910323) + ((((x0 - (((x0.toUInt64 >>> ((1 : Int32).toInt64.toUInt64 &&& Int64.toUInt64 63)).toInt64) &&& 6148914691236517205)).toUInt64 >>> ((2 : Int32).toInt64.toUInt64 &&& Int64.toUInt64 63)).toInt64) &&& 3689348814741910323)).toUInt64 >>> ((4 : Int32).toInt64.toUInt64 &&& Int64.toUInt64 63)).toInt64)) &&& 1085102592571150095).toUInt64 >>> ((8 : Int32).toInt64.toUInt64 &&& Int64.toUInt64 63)).toInt64)).toUInt64 >>> ((16 : Int32).toInt64.toUInt64 &&& Int64.toUInt64 63)).toInt64)).toUInt64 >>> ((32 : Int32).toInt64.toUInt64 &&& Int64.toUInt64 63)).toInt64)))] dJ13_bitCount_95d88_54 rfl (by decide) rfl ?_
  refine v_lload_n C 0 dJ13_bitCount_95d88_55 rfl rfl ?_
  refine v_l2i C dJ13_bitCount_95d88_56 ?_
  refine v_bipush (v := 127) C dJ13_bitCount_95d88_57 (by decide) ?_
  refine v_iand C dJ13_bitCount_95d88_59 ?_
  cases h
  exact hk _ _ dJ13_bitCount_95d88_60
abbrev wAJ (cI cJ : ClassId) (aA : Nat → Nat) (f_A : (Nat → Int64)) : va_W := [(aA 0, .inl (cJ, 38, .inr (.inl f_A)))]
def f_J7_fill_d0a16_B6 (x1 : Int64) (x4 : Int32) : (Int32 × (Nat → Int64)) → Option ((Int32 × (Nat → Int64)) ⊕ (Nat → Int64))
  | (x3, f_A) => if x4 ≤ x3 then (some (.inr f_A)) else (bnd x3 38 (some (.inl (x3 + 1, vp_updL f_A x3.toNatClampNeg x1))))
def f_J7_fill_d0a16 (f_A : (Nat → Int64)) (x1 : Int64) : Option (Nat → Int64) := (lp (f_J7_fill_d0a16_B6 x1 38) 64 (0, f_A)).bind (fun r => match r with | f_A_1 => some f_A_1)
theorem cw_J7_fill_d0a16 : CWs yJ7_fill_d0a16 cJ7_fill_d0a16 5 none 2 := ⟨m1_202, m1_11, m1_203, by decide, by decide, by decide +kernel⟩
set_option maxHeartbeats 4000000 in
set_option maxRecDepth 100000 in
theorem t_J7_fill_d0a16_B6 {p : Program} {l : Launch} {e : Env} {s : State} {m : MethodId} {args : Array Value} {below : List Frame} {meth : Method} {c : Code} {D : va_G} {A : Nat → Prop} {cI cJ : ClassId} {Q : State → Prop} (C : Cx p s m args c cJ7_fill_d0a16 5 RJ7 D A cI cJ) {aA : Nat → Nat} {x1 : Int64} {x4 : Int32} (s8 : (Int32 × (Nat → Int64))) (o8 : (Int32 × (Nat → Int64)) ⊕ (Nat → Int64)) (h : f_J7_fill_d0a16_B6 x1 x4 s8 = some o8) (hl : ∀ s8, o8 = .inl s8 → V p l e (rmO 0 0) s m args below meth c 5 D A 0 0 Q 6 [(0, .ref (aA 0)), (1, .long x1), (3, .int s8.1), (4, .int x4)] [] (wAJ cI cJ aA s8.2)) (hx : ∀ r8, o8 = .inr r8 → V p l e (rmO 0 0) s m args below meth c 5 D A 0 0 Q 22 [] [] (wAJ cI cJ aA r8)) : V p l e (rmO 0 0) s m args below meth c 5 D A 0 0 Q 6 [(0, .ref (aA 0)), (1, .long x1), (3, .int s8.1), (4, .int x4)] [] (wAJ cI cJ aA s8.2) := by
  obtain ⟨x3, f_A⟩ := s8
  unfold f_J7_fill_d0a16_B6 at h
  show V p l e (rmO 0 0) s m args below meth c 5 D A 0 0 Q 6 [(0, .ref (aA 0)), (1, .long x1), (3, .int x3), (4, .int x4)] [] (wAJ cI cJ aA f_A)
  refine v_iload_n C 2 dJ7_fill_d0a16_6 rfl rfl ?_
  refine v_iload C 3 dJ7_fill_d0a16_7 rfl ?_
  refine v_icmp_ge (tgt := 22) C dJ7_fill_d0a16_9 (by decide) h (fun h => ?_) (fun h => ?_)
  · refine v_perm [] rfl ?_
    cases h
    exact hx _ rfl
  · refine v_aload_n C 0 dJ7_fill_d0a16_12 rfl rfl ?_
    refine v_iload_n C 2 dJ7_fill_d0a16_13 rfl rfl ?_
    refine v_lload_n C 1 dJ7_fill_d0a16_14 rfl rfl ?_
    refine v_last C (wAJ cI cJ aA (vp_updL f_A x3.toNatClampNeg x1)) 0 rfl dJ7_fill_d0a16_15 h rfl (fun h => ?_)
    refine v_iinc C [(3, .int (x3 + 1)), (0, .ref (aA 0)), (1, .long x1), (4, .int x4)] 2 dJ7_fill_d0a16_16 rfl rfl (by decide) rfl ?_
    refine v_goto (tgt := 6) C dJ7_fill_d0a16_19 (by decide) ?_
    refine v_perm [1, 2, 0, 3] rfl ?_
    cases h
    exact hl _ rfl
set_option maxHeartbeats 4000000 in
set_option maxRecDepth 100000 in
theorem t_J7_fill_d0a16_L6 {p : Program} {l : Launch} {e : Env} {s : State} {m : MethodId} {args : Array Value} {below : List Frame} {meth : Method} {c : Code} {D : va_G} {A : Nat → Prop} {cI cJ : ClassId} {Q : State → Prop} (C : Cx p s m args c cJ7_fill_d0a16 5 RJ7 D A cI cJ) {aA : Nat → Nat} {x1 : Int64} {x4 : Int32} {n8 : Nat} {s9 : (Int32 × (Nat → Int64))} {o8 : (Nat → Int64)} (h : lp (f_J7_fill_d0a16_B6 x1 x4) n8 s9 = some o8) (hk : V p l e (rmO 0 0) s m args below meth c 5 D A 0 0 Q 22 [] [] (wAJ cI cJ aA o8)) : V p l e (rmO 0 0) s m args below meth c 5 D A 0 0 Q 6 [(0, .ref (aA 0)), (1, .long x1), (3, .int s9.1), (4, .int x4)] [] (wAJ cI cJ aA s9.2) := lp_ok (Pσ := fun s8 => V p l e (rmO 0 0) s m args below meth c 5 D A 0 0 Q 6 [(0, .ref (aA 0)), (1, .long x1), (3, .int s8.1), (4, .int x4)] [] (wAJ cI cJ aA s8.2)) (Pρ := fun r8 => V p l e (rmO 0 0) s m args below meth c 5 D A 0 0 Q 22 [] [] (wAJ cI cJ aA r8)) (fun s o h hl hx => t_J7_fill_d0a16_B6 C s o h hl hx) n8 s9 o8 h hk
set_option maxHeartbeats 4000000 in
set_option maxRecDepth 100000 in
theorem c_J7_fill_d0a16 (l : Launch) (D : va_G) (cI cJ : ClassId) (aA : Nat → Nat) (f_A : (Nat → Int64)) (x1 : Int64) (f_A' : (Nat → Int64)) (h : f_J7_fill_d0a16 f_A x1 = some f_A') : Ctv l D cI cJ yJ7_fill_d0a16 cJ7_fill_d0a16 5 none 0 0 [.ref (aA 0), .long x1] (wAJ cI cJ aA f_A) (wAJ cI cJ aA f_A') := by
  refine mk_v [(0, .ref (aA 0)), (1, .long x1)] (by decide) rfl (Nat.le_of_ble_eq_true rfl) rfl (fun p e s m args below meth c A Q C hk => ?_)
  unfold f_J7_fill_d0a16 at h
  refine v_iconst (v := 0) C dJ7_fill_d0a16_0 (by decide) ?_
  refine v_istore_n C [(3, .int 0), (0, .ref (aA 0)), (1, .long x1)] dJ7_fill_d0a16_1 rfl (by decide) rfl ?_
  refine v_aload_n C 1 dJ7_fill_d0a16_2 rfl rfl ?_
  refine v_alenJ (v := 38) C 0 rfl rfl dJ7_fill_d0a16_3 ?_
  refine v_istore C [(4, .int 38), (3, .int 0), (0, .ref (aA 0)), (1, .long x1)] dJ7_fill_d0a16_4 (by decide) rfl ?_
  obtain ⟨r, h1, h⟩ := bind_el h
  refine v_perm [2, 3, 1, 0] rfl ?_
  obtain ⟨f_A_1, rfl⟩ : ∃ z, z = r := ⟨_, rfl⟩
  refine t_J7_fill_d0a16_L6 C (s9 := (0, f_A)) h1 ?_
  show V p l e (rmO 0 0) s m args below meth c 5 D A 0 0 Q 22 [] [] (wAJ cI cJ aA f_A_1)
  try dsimp only at h
  cases h
  exact hk _ _ dJ7_fill_d0a16_22
abbrev wAI (cI cJ : ClassId) (aA : Nat → Nat) (f_A : (Nat → Int32)) : va_W := [(aA 0, .inl (cI, 38, .inl f_A))]
def f_J7_fill_53178_B5 (x1 : Int32) (x3 : Int32) : (Int32 × (Nat → Int32)) → Option ((Int32 × (Nat → Int32)) ⊕ (Nat → Int32))
  | (x2, f_A) => if x3 ≤ x2 then (some (.inr f_A)) else (bnd x2 38 (some (.inl (x2 + 1, upd f_A x2.toNatClampNeg x1))))
def f_J7_fill_53178 (f_A : (Nat → Int32)) (x1 : Int32) : Option (Nat → Int32) := (lp (f_J7_fill_53178_B5 x1 38) 64 (0, f_A)).bind (fun r => match r with | f_A_1 => some f_A_1)
theorem cw_J7_fill_53178 : CWs yJ7_fill_53178 cJ7_fill_53178 4 none 2 := ⟨m2_148, m1_11, m2_149, by decide, by decide, by decide +kernel⟩
set_option maxHeartbeats 4000000 in
set_option maxRecDepth 100000 in
theorem t_J7_fill_53178_B5 {p : Program} {l : Launch} {e : Env} {s : State} {m : MethodId} {args : Array Value} {below : List Frame} {meth : Method} {c : Code} {D : va_G} {A : Nat → Prop} {cI cJ : ClassId} {Q : State → Prop} (C : Cx p s m args c cJ7_fill_53178 4 RJ7 D A cI cJ) {aA : Nat → Nat} {x1 : Int32} {x3 : Int32} (s8 : (Int32 × (Nat → Int32))) (o8 : (Int32 × (Nat → Int32)) ⊕ (Nat → Int32)) (h : f_J7_fill_53178_B5 x1 x3 s8 = some o8) (hl : ∀ s8, o8 = .inl s8 → V p l e (rmO 0 0) s m args below meth c 4 D A 0 0 Q 5 [(0, .ref (aA 0)), (1, .int x1), (2, .int s8.1), (3, .int x3)] [] (wAI cI cJ aA s8.2)) (hx : ∀ r8, o8 = .inr r8 → V p l e (rmO 0 0) s m args below meth c 4 D A 0 0 Q 20 [] [] (wAI cI cJ aA r8)) : V p l e (rmO 0 0) s m args below meth c 4 D A 0 0 Q 5 [(0, .ref (aA 0)), (1, .int x1), (2, .int s8.1), (3, .int x3)] [] (wAI cI cJ aA s8.2) := by
  obtain ⟨x2, f_A⟩ := s8
  unfold f_J7_fill_53178_B5 at h
  show V p l e (rmO 0 0) s m args below meth c 4 D A 0 0 Q 5 [(0, .ref (aA 0)), (1, .int x1), (2, .int x2), (3, .int x3)] [] (wAI cI cJ aA f_A)
  refine v_iload_n C 2 dJ7_fill_53178_5 rfl rfl ?_
  refine v_iload_n C 3 dJ7_fill_53178_6 rfl rfl ?_
  refine v_icmp_ge (tgt := 20) C dJ7_fill_53178_7 (by decide) h (fun h => ?_) (fun h => ?_)
  · refine v_perm [] rfl ?_
    cases h
    exact hx _ rfl
  · refine v_aload_n C 0 dJ7_fill_53178_10 rfl rfl ?_
    refine v_iload_n C 2 dJ7_fill_53178_11 rfl rfl ?_
    refine v_iload_n C 1 dJ7_fill_53178_12 rfl rfl ?_
    refine v_iast C (wAI cI cJ aA (upd f_A x2.toNatClampNeg x1)) 0 rfl dJ7_fill_53178_13 h rfl (fun h => ?_)
    refine v_iinc C [(2, .int (x2 + 1)), (0, .ref (aA 0)), (1, .int x1), (3, .int x3)] 2 dJ7_fill_53178_14 rfl rfl (by decide) rfl ?_
    refine v_goto (tgt := 5) C dJ7_fill_53178_17 (by decide) ?_
    refine v_perm [1, 2, 0, 3] rfl ?_
    cases h
    exact hl _ rfl
set_option maxHeartbeats 4000000 in
set_option maxRecDepth 100000 in
theorem t_J7_fill_53178_L5 {p : Program} {l : Launch} {e : Env} {s : State} {m : MethodId} {args : Array Value} {below : List Frame} {meth : Method} {c : Code} {D : va_G} {A : Nat → Prop} {cI cJ : ClassId} {Q : State → Prop} (C : Cx p s m args c cJ7_fill_53178 4 RJ7 D A cI cJ) {aA : Nat → Nat} {x1 : Int32} {x3 : Int32} {n8 : Nat} {s9 : (Int32 × (Nat → Int32))} {o8 : (Nat → Int32)} (h : lp (f_J7_fill_53178_B5 x1 x3) n8 s9 = some o8) (hk : V p l e (rmO 0 0) s m args below meth c 4 D A 0 0 Q 20 [] [] (wAI cI cJ aA o8)) : V p l e (rmO 0 0) s m args below meth c 4 D A 0 0 Q 5 [(0, .ref (aA 0)), (1, .int x1), (2, .int s9.1), (3, .int x3)] [] (wAI cI cJ aA s9.2) := lp_ok (Pσ := fun s8 => V p l e (rmO 0 0) s m args below meth c 4 D A 0 0 Q 5 [(0, .ref (aA 0)), (1, .int x1), (2, .int s8.1), (3, .int x3)] [] (wAI cI cJ aA s8.2)) (Pρ := fun r8 => V p l e (rmO 0 0) s m args below meth c 4 D A 0 0 Q 20 [] [] (wAI cI cJ aA r8)) (fun s o h hl hx => t_J7_fill_53178_B5 C s o h hl hx) n8 s9 o8 h hk
set_option maxHeartbeats 4000000 in
set_option maxRecDepth 100000 in
theorem c_J7_fill_53178 (l : Launch) (D : va_G) (cI cJ : ClassId) (aA : Nat → Nat) (f_A : (Nat → Int32)) (x1 : Int32) (f_A' : (Nat → Int32)) (h : f_J7_fill_53178 f_A x1 = some f_A') : Ctv l D cI cJ yJ7_fill_53178 cJ7_fill_53178 4 none 0 0 [.ref (aA 0), .int x1] (wAI cI cJ aA f_A) (wAI cI cJ aA f_A') := by
  refine mk_v [(0, .ref (aA 0)), (1, .int x1)] (by decide) rfl (Nat.le_of_ble_eq_true rfl) rfl (fun p e s m args below meth c A Q C hk => ?_)
  unfold f_J7_fill_53178 at h
  refine v_iconst (v := 0) C dJ7_fill_53178_0 (by decide) ?_
  refine v_istore_n C [(2, .int 0), (0, .ref (aA 0)), (1, .int x1)] dJ7_fill_53178_1 rfl (by decide) rfl ?_
  refine v_aload_n C 1 dJ7_fill_53178_2 rfl rfl ?_
  refine v_alenI (v := 38) C 0 rfl rfl dJ7_fill_53178_3 ?_
  refine v_istore_n C [(3, .int 38), (2, .int 0), (0, .ref (aA 0)), (1, .int x1)] dJ7_fill_53178_4 rfl (by decide) rfl ?_
  obtain ⟨r, h1, h⟩ := bind_el h
  refine v_perm [2, 3, 1, 0] rfl ?_
  obtain ⟨f_A_1, rfl⟩ : ∃ z, z = r := ⟨_, rfl⟩
  refine t_J7_fill_53178_L5 C (s9 := (0, f_A)) h1 ?_
  show V p l e (rmO 0 0) s m args below meth c 4 D A 0 0 Q 20 [] [] (wAI cI cJ aA f_A_1)
  try dsimp only at h
  cases h
  exact hk _ _ dJ7_fill_53178_20
def f_X1_isIn (x0 : Int64) (x2 : Int32) : Option Int32 := if (lg_cmp ((x0 >>> (x2.toInt64 &&& 63)) &&& 1) 0) = 0 then (some 0) else (some 1)
theorem cw_X1_isIn : CWs yX1_isIn cX1_isIn 3 (some .boolean) 2 := ⟨m1_217, m1_4, m1_218, by decide, by decide, by decide +kernel⟩
set_option maxHeartbeats 4000000 in
set_option maxRecDepth 100000 in
theorem c_X1_isIn (l : Launch) (D : va_G) (cI cJ : ClassId) (x0 : Int64) (x2 : Int32) (r : Int32) (h : f_X1_isIn x0 x2 = some r) : Cti l D cI cJ yX1_isIn cX1_isIn 3 (some .boolean) 0 0 [.long x0, .int x2] [] [] r := by
  refine mk_z [(0, .long x0), (2, .int x2)] (by decide) rfl (Nat.le_of_ble_eq_true rfl) rfl (fun p e s m args below meth c A Q C hk => ?_)
  unfold f_X1_isIn at h
  refine v_lload_n C 0 dX1_isIn_0 rfl rfl ?_
  refine v_iload_n C 1 dX1_isIn_1 rfl rfl ?_
  refine v_lshr C dX1_isIn_2 ?_
  refine v_lconst (v := 1) C dX1_isIn_3 (by decide) ?_
  refine v_land C dX1_isIn_4 ?_
  refine v_lconst (v := 0) C dX1_isIn_5 (by decide) ?_
  refine v_lcmp C dX1_isIn_6 ?_
  refine v_if_eq (tgt := 14) C dX1_isIn_7 (by decide) h (fun h => ?_) (fun h => ?_)
  · refine v_iconst (v := 0) C dX1_isIn_14 (by decide) ?_
    cases h
    exact hk _ _ dX1_isIn_15 (Or.inl rfl)
  · refine v_iconst (v := 1) C dX1_isIn_10 (by decide) ?_
    refine v_goto (tgt := 15) C dX1_isIn_11 (by decide) ?_
    cases h
    exact hk _ _ dX1_isIn_15 (Or.inr rfl)
abbrev wL (cI cJ : ClassId) (aL : Nat → Nat) (netOf_L : (Nat → Int32)) (left_L : (Nat → Int32)) (right_L : (Nat → Int32)) (trackOf_L : (Nat → Int32)) (touched_L : (Nat → Int32)) (below_L : (Nat → Int64)) (byLeft_L : (Nat → Int32)) (size_L : Int32) (tracks_L : Int32) : va_W := [(aL 0, .inr (1, [.ref (aL 1), .ref (aL 2), .ref (aL 3), .ref (aL 4), .ref (aL 5), .ref (aL 6), .ref (aL 7), .int size_L, .int tracks_L])), (aL 1, .inl (cI, 38, .inl netOf_L)), (aL 2, .inl (cI, 38, .inl left_L)), (aL 3, .inl (cI, 38, .inl right_L)), (aL 4, .inl (cI, 38, .inl trackOf_L)), (aL 5, .inl (cI, 38, .inl touched_L)), (aL 6, .inl (cJ, 38, .inr (.inl below_L))), (aL 7, .inl (cI, 38, .inl byLeft_L))]
def f_X1_clear : Option (Int32 × Int32) := some (0, 0)
theorem cw_X1_clear : CWv yX1_clear cX1_clear 1 none RX1 0 := ⟨m1_179, ms1_9, m1_4, m1_180, rfl, by decide, by decide, by decide +kernel⟩
set_option maxHeartbeats 4000000 in
set_option maxRecDepth 100000 in
theorem c_X1_clear (l : Launch) (D : va_G) (cI cJ : ClassId) (aL : Nat → Nat) (netOf_L : (Nat → Int32)) (left_L : (Nat → Int32)) (right_L : (Nat → Int32)) (trackOf_L : (Nat → Int32)) (touched_L : (Nat → Int32)) (below_L : (Nat → Int64)) (byLeft_L : (Nat → Int32)) (size_L : Int32) (tracks_L : Int32) (size_L' : Int32) (tracks_L' : Int32) (h : f_X1_clear = some (size_L', tracks_L')) : Ctv l D cI cJ yX1_clear cX1_clear 1 none 0 0 [.ref (aL 0)] (wL cI cJ aL netOf_L left_L right_L trackOf_L touched_L below_L byLeft_L size_L tracks_L) (wL cI cJ aL netOf_L left_L right_L trackOf_L touched_L below_L byLeft_L size_L' tracks_L') := by
  refine mk_v [(0, .ref (aL 0))] (by decide) rfl (Nat.le_of_ble_eq_true rfl) rfl (fun p e s m args below meth c A Q C hk => ?_)
  unfold f_X1_clear at h
  refine v_aload_n C 0 dX1_clear_0 rfl rfl ?_
  refine v_iconst (v := 0) C dX1_clear_1 (by decide) ?_
  refine v_put C (wL cI cJ aL netOf_L left_L right_L trackOf_L touched_L below_L byLeft_L 0 tracks_L) 0 7 iuX1 tyX1_ok nmX1 rfl rfl (by decide) m1_80 rfl rfl rfl rfl rfl (Nat.le_of_ble_eq_true rfl) dX1_clear_2 rfl ?_
  refine v_aload_n C 0 dX1_clear_5 rfl rfl ?_
  refine v_iconst (v := 0) C dX1_clear_6 (by decide) ?_
  refine v_put C (wL cI cJ aL netOf_L left_L right_L trackOf_L touched_L below_L byLeft_L 0 0) 0 8 iuX1 tyX1_ok nmX1 rfl rfl (by decide) m1_83 rfl rfl rfl rfl rfl (Nat.le_of_ble_eq_true rfl) dX1_clear_7 rfl ?_
  cases h
  exact hk _ _ dX1_clear_10
def f_X1_add (netOf_L : (Nat → Int32)) (left_L : (Nat → Int32)) (right_L : (Nat → Int32)) (touched_L : (Nat → Int32)) (size_L : Int32) (x1 : Int32) (x2 : Int32) (x3 : Int32) (x4 : Int32) : Option ((Nat → Int32) × (Nat → Int32) × (Nat → Int32) × (Nat → Int32) × Int32) := if 38 ≤ size_L then (some (netOf_L, left_L, right_L, touched_L, size_L)) else (bnd size_L 38 (bnd size_L 38 (bnd size_L 38 (bnd size_L 38 (some (upd netOf_L size_L.toNatClampNeg x1, upd left_L size_L.toNatClampNeg x2, upd right_L size_L.toNatClampNeg x3, upd touched_L size_L.toNatClampNeg x4, size_L + 1))))))
theorem cw_X1_add : CWv yX1_add cX1_add 5 none RX1 4 := ⟨m1_189, ms1_11, m1_4, m1_190, rfl, by decide, by decide, by decide +kernel⟩
set_option maxHeartbeats 4000000 in
set_option maxRecDepth 100000 in
theorem c_X1_add (l : Launch) (D : va_G) (cI cJ : ClassId) (aL : Nat → Nat) (netOf_L : (Nat → Int32)) (left_L : (Nat → Int32)) (right_L : (Nat → Int32)) (trackOf_L : (Nat → Int32)) (touched_L : (Nat → Int32)) (below_L : (Nat → Int64)) (byLeft_L : (Nat → Int32)) (size_L : Int32) (tracks_L : Int32) (x1 : Int32) (x2 : Int32) (x3 : Int32) (x4 : Int32) (netOf_L' : (Nat → Int32)) (left_L' : (Nat → Int32)) (right_L' : (Nat → Int32)) (touched_L' : (Nat → Int32)) (size_L' : Int32) (h : f_X1_add netOf_L left_L right_L touched_L size_L x1 x2 x3 x4 = some (netOf_L', left_L', right_L', touched_L', size_L')) : Ctv l D cI cJ yX1_add cX1_add 5 none 0 0 [.ref (aL 0), .int x1, .int x2, .int x3, .int x4] (wL cI cJ aL netOf_L left_L right_L trackOf_L touched_L below_L byLeft_L size_L tracks_L) (wL cI cJ aL netOf_L' left_L' right_L' trackOf_L touched_L' below_L byLeft_L size_L' tracks_L) := by
  refine mk_v [(0, .ref (aL 0)), (1, .int x1), (2, .int x2), (3, .int x3), (4, .int x4)] (by decide) rfl (Nat.le_of_ble_eq_true rfl) rfl (fun p e s m args below meth c A Q C hk => ?_)
  unfold f_X1_add at h
  refine v_aload_n C 0 dX1_add_0 rfl rfl ?_
  refine v_get C 0 7 iuX1 rfl rfl (by decide) m1_80 rfl rfl dX1_add_1 ?_
  refine v_bipush (v := 38) C dX1_add_4 (by decide) ?_
  refine v_icmp_ge (tgt := 60) C dX1_add_6 (by decide) h (fun h => ?_) (fun h => ?_)
  · cases h
    exact hk _ _ dX1_add_60
  · refine v_aload_n C 0 dX1_add_9 rfl rfl ?_
    refine v_get C 0 0 iuX1 rfl rfl (by decide) m1_68 rfl rfl dX1_add_10 ?_
    refine v_aload_n C 0 dX1_add_13 rfl rfl ?_
    refine v_get C 0 7 iuX1 rfl rfl (by decide) m1_80 rfl rfl dX1_add_14 ?_
    refine v_iload_n C 1 dX1_add_17 rfl rfl ?_
    refine v_iast C (wL cI cJ aL (upd netOf_L size_L.toNatClampNeg x1) left_L right_L trackOf_L touched_L below_L byLeft_L size_L tracks_L) 1 rfl dX1_add_18 h rfl (fun h => ?_)
    refine v_aload_n C 0 dX1_add_19 rfl rfl ?_
    refine v_get C 0 1 iuX1 rfl rfl (by decide) m1_70 rfl rfl dX1_add_20 ?_
    refine v_aload_n C 0 dX1_add_23 rfl rfl ?_
    refine v_get C 0 7 iuX1 rfl rfl (by decide) m1_80 rfl rfl dX1_add_24 ?_
    refine v_iload_n C 2 dX1_add_27 rfl rfl ?_
    refine v_iast C (wL cI cJ aL (upd netOf_L size_L.toNatClampNeg x1) (upd left_L size_L.toNatClampNeg x2) right_L trackOf_L touched_L below_L byLeft_L size_L tracks_L) 2 rfl dX1_add_28 h rfl (fun h => ?_)
    refine v_aload_n C 0 dX1_add_29 rfl rfl ?_
    refine v_get C 0 2 iuX1 rfl rfl (by decide) m1_72 rfl rfl dX1_add_30 ?_
    refine v_aload_n C 0 dX1_add_33 rfl rfl ?_
    refine v_get C 0 7 iuX1 rfl rfl (by decide) m1_80 rfl rfl dX1_add_34 ?_
    refine v_iload_n C 3 dX1_add_37 rfl rfl ?_
    refine v_iast C (wL cI cJ aL (upd netOf_L size_L.toNatClampNeg x1) (upd left_L size_L.toNatClampNeg x2) (upd right_L size_L.toNatClampNeg x3) trackOf_L touched_L below_L byLeft_L size_L tracks_L) 3 rfl dX1_add_38 h rfl (fun h => ?_)
    refine v_aload_n C 0 dX1_add_39 rfl rfl ?_
    refine v_get C 0 4 iuX1 rfl rfl (by decide) m1_76 rfl rfl dX1_add_40 ?_
    refine v_aload_n C 0 dX1_add_43 rfl rfl ?_
    refine v_get C 0 7 iuX1 rfl rfl (by decide) m1_80 rfl rfl dX1_add_44 ?_
    refine v_iload C 4 dX1_add_47 rfl ?_
    refine v_iast C (wL cI cJ aL (upd netOf_L size_L.toNatClampNeg x1) (upd left_L size_L.toNatClampNeg x2) (upd right_L size_L.toNatClampNeg x3) trackOf_L (upd touched_L size_L.toNatClampNeg x4) below_L byLeft_L size_L tracks_L) 5 rfl dX1_add_49 h rfl (fun h => ?_)
    refine v_aload_n C 0 dX1_add_50 rfl rfl ?_
    refine v_dup C dX1_add_51 rfl ?_
    refine v_get C 0 7 iuX1 rfl rfl (by decide) m1_80 rfl rfl dX1_add_52 ?_
    refine v_iconst (v := 1) C dX1_add_55 (by decide) ?_
    refine v_iadd C dX1_add_56 ?_
    refine v_put C (wL cI cJ aL (upd netOf_L size_L.toNatClampNeg x1) (upd left_L size_L.toNatClampNeg x2) (upd right_L size_L.toNatClampNeg x3) trackOf_L (upd touched_L size_L.toNatClampNeg x4) below_L byLeft_L (size_L + 1) tracks_L) 0 7 iuX1 tyX1_ok nmX1 rfl rfl (by decide) m1_80 rfl rfl rfl rfl rfl (Nat.le_of_ble_eq_true rfl) dX1_add_57 rfl ?_
    cases h
    exact hk _ _ dX1_add_60
abbrev wLP (cI cJ : ClassId) (aL : Nat → Nat) (aP : Nat → Nat) (netOf_L : (Nat → Int32)) (left_L : (Nat → Int32)) (right_L : (Nat → Int32)) (trackOf_L : (Nat → Int32)) (touched_L : (Nat → Int32)) (below_L : (Nat → Int64)) (byLeft_L : (Nat → Int32)) (size_L : Int32) (tracks_L : Int32) (top_P : (Nat → Int32)) (bottom_P : (Nat → Int32)) : va_W := [(aL 0, .inr (1, [.ref (aL 1), .ref (aL 2), .ref (aL 3), .ref (aL 4), .ref (aL 5), .ref (aL 6), .ref (aL 7), .int size_L, .int tracks_L])), (aL 1, .inl (cI, 38, .inl netOf_L)), (aL 2, .inl (cI, 38, .inl left_L)), (aL 3, .inl (cI, 38, .inl right_L)), (aL 4, .inl (cI, 38, .inl trackOf_L)), (aL 5, .inl (cI, 38, .inl touched_L)), (aL 6, .inl (cJ, 38, .inr (.inl below_L))), (aL 7, .inl (cI, 38, .inl byLeft_L)), (aP 0, .inr (0, [.ref (aP 1), .ref (aP 2)])), (aP 1, .inl (cI, 20, .inl top_P)), (aP 2, .inl (cI, 20, .inl bottom_P))]
def f_X1_addWhole_B5 (x2 : Int32) (top_P : (Nat → Int32)) (bottom_P : (Nat → Int32)) : (Int32 × Int32) → Option ((Int32 × Int32) ⊕ Int32)
  | (x3, x4) => if 20 ≤ x4 then (some (.inr x3)) else ((f_X0_has top_P bottom_P x2 x4).bind (fun r => match r with | r_1 => if r_1 = 0 then (some (.inl (x3, x4 + 1))) else (some (.inl ((x3 ||| ((1 : Int32) <<< (x4 &&& 31)), x4 + 1))))))
def f_X1_addWhole (netOf_L : (Nat → Int32)) (left_L : (Nat → Int32)) (right_L : (Nat → Int32)) (touched_L : (Nat → Int32)) (size_L : Int32) (top_P : (Nat → Int32)) (bottom_P : (Nat → Int32)) (x2 : Int32) : Option ((Nat → Int32) × (Nat → Int32) × (Nat → Int32) × (Nat → Int32) × Int32) := (lp (f_X1_addWhole_B5 x2 top_P bottom_P) 64 (0, 0)).bind (fun r => match r with | x3_2 => (f_X0_firstColumn top_P bottom_P x2).bind (fun r => match r with | r_3 => (f_X0_lastColumn top_P bottom_P x2).bind (fun r => match r with | r_4 => (f_X1_add netOf_L left_L right_L touched_L size_L x2 r_3 r_4 x3_2).bind (fun r => match r with | (netOf_L_5, left_L_6, right_L_7, touched_L_8, size_L_9) => some (netOf_L_5, left_L_6, right_L_7, touched_L_8, size_L_9)))))
theorem cw_X1_addWhole : CWv yX1_addWhole cX1_addWhole 5 none RX1 2 := ⟨m1_193, ms1_12, m1_4, m1_194, rfl, by decide, by decide, by decide +kernel⟩
set_option maxHeartbeats 4000000 in
set_option maxRecDepth 100000 in
theorem t_X1_addWhole_B5 {p : Program} {l : Launch} {e : Env} {s : State} {m : MethodId} {args : Array Value} {below : List Frame} {meth : Method} {c : Code} {D : va_G} {A : Nat → Prop} {cI cJ : ClassId} {Q : State → Prop} (C : Cx p s m args c cX1_addWhole 5 RX1 D A cI cJ) {aL : Nat → Nat} {aP : Nat → Nat} {x2 : Int32} {netOf_L : (Nat → Int32)} {left_L : (Nat → Int32)} {right_L : (Nat → Int32)} {trackOf_L : (Nat → Int32)} {touched_L : (Nat → Int32)} {below_L : (Nat → Int64)} {byLeft_L : (Nat → Int32)} {size_L : Int32} {tracks_L : Int32} {top_P : (Nat → Int32)} {bottom_P : (Nat → Int32)} (s8 : (Int32 × Int32)) (o8 : (Int32 × Int32) ⊕ Int32) (h : f_X1_addWhole_B5 x2 top_P bottom_P s8 = some o8) (hl : ∀ s8, o8 = .inl s8 → V p l e (rmO 2 44) s m args below meth c 5 D A 0 0 Q 5 [(0, .ref (aL 0)), (1, .ref (aP 0)), (2, .int x2), (3, .int s8.1), (4, .int s8.2)] [] (wLP cI cJ aL aP netOf_L left_L right_L trackOf_L touched_L below_L byLeft_L size_L tracks_L top_P bottom_P)) (hx : ∀ r8, o8 = .inr r8 → V p l e (rmO 2 44) s m args below meth c 5 D A 0 0 Q 35 [(0, .ref (aL 0)), (1, .ref (aP 0)), (2, .int x2), (3, .int r8)] [] (wLP cI cJ aL aP netOf_L left_L right_L trackOf_L touched_L below_L byLeft_L size_L tracks_L top_P bottom_P)) : V p l e (rmO 2 44) s m args below meth c 5 D A 0 0 Q 5 [(0, .ref (aL 0)), (1, .ref (aP 0)), (2, .int x2), (3, .int s8.1), (4, .int s8.2)] [] (wLP cI cJ aL aP netOf_L left_L right_L trackOf_L touched_L below_L byLeft_L size_L tracks_L top_P bottom_P) := by
  obtain ⟨x3, x4⟩ := s8
  unfold f_X1_addWhole_B5 at h
  show V p l e (rmO 2 44) s m args below meth c 5 D A 0 0 Q 5 [(0, .ref (aL 0)), (1, .ref (aP 0)), (2, .int x2), (3, .int x3), (4, .int x4)] [] (wLP cI cJ aL aP netOf_L left_L right_L trackOf_L touched_L below_L byLeft_L size_L tracks_L top_P bottom_P)
  refine v_iload C 4 dX1_addWhole_5 rfl ?_
  refine v_bipush (v := 20) C dX1_addWhole_7 (by decide) ?_
  refine v_icmp_ge (tgt := 35) C dX1_addWhole_9 (by decide) h (fun h => ?_) (fun h => ?_)
  · refine v_perm [0, 1, 2, 3] rfl ?_
    cases h
    exact hx _ rfl
  · refine v_aload_n C 1 dX1_addWhole_12 rfl rfl ?_
    refine v_iload_n C 2 dX1_addWhole_13 rfl rfl ?_
    refine v_iload C 4 dX1_addWhole_14 rfl ?_
    obtain ⟨r, h1, h⟩ := bind_el h
    obtain ⟨r_1, rfl⟩ : ∃ z, z = r := ⟨_, rfl⟩
    try dsimp only at h
    refine v_callNi (As := [.int x2, .int x4]) (st := []) (wr := [(aL 0, .inr (1, [.ref (aL 1), .ref (aL 2), .ref (aL 3), .ref (aL 4), .ref (aL 5), .ref (aL 6), .ref (aL 7), .int size_L, .int tracks_L])), (aL 1, .inl (cI, 38, .inl netOf_L)), (aL 2, .inl (cI, 38, .inl left_L)), (aL 3, .inl (cI, 38, .inl right_L)), (aL 4, .inl (cI, 38, .inl trackOf_L)), (aL 5, .inl (cI, 38, .inl touched_L)), (aL 6, .inl (cJ, 38, .inr (.inl below_L))), (aL 7, .inl (cI, 38, .inl byLeft_L))]) (w1 := (wP cI cJ aP top_P bottom_P)) (ws' := (wLP cI cJ aL aP netOf_L left_L right_L trackOf_L touched_L below_L byLeft_L size_L tracks_L top_P bottom_P)) (isC := [8, 9, 10]) (isR := [0, 1, 2, 3, 4, 5, 6, 7]) (pm := [0, 1, 2, 3, 4, 5, 6, 7, 8, 9, 10]) C (c_X0_has l D cI cJ aP top_P bottom_P x2 x4 r_1 h1) cw_X0_has 0 rfl rfl nw_19 dX1_addWhole_16 rfl ⟨Nat.le_of_ble_eq_true rfl, Nat.le_of_ble_eq_true rfl⟩ (Nat.le_of_ble_eq_true rfl) ⟨Nat.le_refl 0, Nat.le_refl 0⟩ ⟨rfl, rfl, rfl, rfl, by decide, rfl, rfl⟩ ?_
    refine v_if_eq (tgt := 29) C dX1_addWhole_19 (by decide) h (fun h => ?_) (fun h => ?_)
    · refine v_iinc C [(4, .int (x4 + 1)), (0, .ref (aL 0)), (1, .ref (aP 0)), (2, .int x2), (3, .int x3)] 4 dX1_addWhole_29 rfl rfl (by decide) rfl ?_
      refine v_goto (tgt := 5) C dX1_addWhole_32 (by decide) ?_
      refine v_perm [1, 2, 3, 4, 0] rfl ?_
      cases h
      exact hl _ rfl
    · refine v_iload_n C 3 dX1_addWhole_22 rfl rfl ?_
      refine v_iconst (v := 1) C dX1_addWhole_23 (by decide) ?_
      refine v_iload C 4 dX1_addWhole_24 rfl ?_
      refine v_ishl C dX1_addWhole_26 ?_
      refine v_ior C dX1_addWhole_27 ?_
      refine v_istore_n C [(3, .int (x3 ||| ((1 : Int32) <<< (x4 &&& 31)))), (0, .ref (aL 0)), (1, .ref (aP 0)), (2, .int x2), (4, .int x4)] dX1_addWhole_28 rfl (by decide) rfl ?_
      refine v_iinc C [(4, .int (x4 + 1)), (3, .int (x3 ||| ((1 : Int32) <<< (x4 &&& 31)))), (0, .ref (aL 0)), (1, .ref (aP 0)), (2, .int x2)] 4 dX1_addWhole_29 rfl rfl (by decide) rfl ?_
      refine v_goto (tgt := 5) C dX1_addWhole_32 (by decide) ?_
      refine v_perm [2, 3, 4, 1, 0] rfl ?_
      cases h
      exact hl _ rfl
set_option maxHeartbeats 4000000 in
set_option maxRecDepth 100000 in
theorem t_X1_addWhole_L5 {p : Program} {l : Launch} {e : Env} {s : State} {m : MethodId} {args : Array Value} {below : List Frame} {meth : Method} {c : Code} {D : va_G} {A : Nat → Prop} {cI cJ : ClassId} {Q : State → Prop} (C : Cx p s m args c cX1_addWhole 5 RX1 D A cI cJ) {aL : Nat → Nat} {aP : Nat → Nat} {x2 : Int32} {netOf_L : (Nat → Int32)} {left_L : (Nat → Int32)} {right_L : (Nat → Int32)} {trackOf_L : (Nat → Int32)} {touched_L : (Nat → Int32)} {below_L : (Nat → Int64)} {byLeft_L : (Nat → Int32)} {size_L : Int32} {tracks_L : Int32} {top_P : (Nat → Int32)} {bottom_P : (Nat → Int32)} {n8 : Nat} {s9 : (Int32 × Int32)} {o8 : Int32} (h : lp (f_X1_addWhole_B5 x2 top_P bottom_P) n8 s9 = some o8) (hk : V p l e (rmO 2 44) s m args below meth c 5 D A 0 0 Q 35 [(0, .ref (aL 0)), (1, .ref (aP 0)), (2, .int x2), (3, .int o8)] [] (wLP cI cJ aL aP netOf_L left_L right_L trackOf_L touched_L below_L byLeft_L size_L tracks_L top_P bottom_P)) : V p l e (rmO 2 44) s m args below meth c 5 D A 0 0 Q 5 [(0, .ref (aL 0)), (1, .ref (aP 0)), (2, .int x2), (3, .int s9.1), (4, .int s9.2)] [] (wLP cI cJ aL aP netOf_L left_L right_L trackOf_L touched_L below_L byLeft_L size_L tracks_L top_P bottom_P) := lp_ok (Pσ := fun s8 => V p l e (rmO 2 44) s m args below meth c 5 D A 0 0 Q 5 [(0, .ref (aL 0)), (1, .ref (aP 0)), (2, .int x2), (3, .int s8.1), (4, .int s8.2)] [] (wLP cI cJ aL aP netOf_L left_L right_L trackOf_L touched_L below_L byLeft_L size_L tracks_L top_P bottom_P)) (Pρ := fun r8 => V p l e (rmO 2 44) s m args below meth c 5 D A 0 0 Q 35 [(0, .ref (aL 0)), (1, .ref (aP 0)), (2, .int x2), (3, .int r8)] [] (wLP cI cJ aL aP netOf_L left_L right_L trackOf_L touched_L below_L byLeft_L size_L tracks_L top_P bottom_P)) (fun s o h hl hx => t_X1_addWhole_B5 C s o h hl hx) n8 s9 o8 h hk
set_option maxHeartbeats 4000000 in
set_option maxRecDepth 100000 in
theorem c_X1_addWhole (l : Launch) (D : va_G) (cI cJ : ClassId) (aL : Nat → Nat) (aP : Nat → Nat) (netOf_L : (Nat → Int32)) (left_L : (Nat → Int32)) (right_L : (Nat → Int32)) (trackOf_L : (Nat → Int32)) (touched_L : (Nat → Int32)) (below_L : (Nat → Int64)) (byLeft_L : (Nat → Int32)) (size_L : Int32) (tracks_L : Int32) (top_P : (Nat → Int32)) (bottom_P : (Nat → Int32)) (x2 : Int32) (netOf_L' : (Nat → Int32)) (left_L' : (Nat → Int32)) (right_L' : (Nat → Int32)) (touched_L' : (Nat → Int32)) (size_L' : Int32) (h : f_X1_addWhole netOf_L left_L right_L touched_L size_L top_P bottom_P x2 = some (netOf_L', left_L', right_L', touched_L', size_L')) : Ctv l D cI cJ yX1_addWhole cX1_addWhole 5 none 2 44 [.ref (aL 0), .ref (aP 0), .int x2] (wLP cI cJ aL aP netOf_L left_L right_L trackOf_L touched_L below_L byLeft_L size_L tracks_L top_P bottom_P) (wLP cI cJ aL aP netOf_L' left_L' right_L' trackOf_L touched_L' below_L byLeft_L size_L' tracks_L top_P bottom_P) := by
  refine mk_v [(0, .ref (aL 0)), (1, .ref (aP 0)), (2, .int x2)] (by decide) rfl (Nat.le_of_ble_eq_true rfl) rfl (fun p e s m args below meth c A Q C hk => ?_)
  unfold f_X1_addWhole at h
  refine v_iconst (v := 0) C dX1_addWhole_0 (by decide) ?_
  refine v_istore_n C [(3, .int 0), (0, .ref (aL 0)), (1, .ref (aP 0)), (2, .int x2)] dX1_addWhole_1 rfl (by decide) rfl ?_
  refine v_iconst (v := 0) C dX1_addWhole_2 (by decide) ?_
  refine v_istore C [(4, .int 0), (3, .int 0), (0, .ref (aL 0)), (1, .ref (aP 0)), (2, .int x2)] dX1_addWhole_3 (by decide) rfl ?_
  obtain ⟨r, h1, h⟩ := bind_el h
  refine v_perm [2, 3, 4, 1, 0] rfl ?_
  obtain ⟨x3_2, rfl⟩ : ∃ z, z = r := ⟨_, rfl⟩
  refine t_X1_addWhole_L5 C (s9 := (0, 0)) h1 ?_
  show V p l e (rmO 2 44) s m args below meth c 5 D A 0 0 Q 35 [(0, .ref (aL 0)), (1, .ref (aP 0)), (2, .int x2), (3, .int x3_2)] [] (wLP cI cJ aL aP netOf_L left_L right_L trackOf_L touched_L below_L byLeft_L size_L tracks_L top_P bottom_P)
  try dsimp only at h
  refine v_aload_n C 0 dX1_addWhole_35 rfl rfl ?_
  refine v_iload_n C 2 dX1_addWhole_36 rfl rfl ?_
  refine v_aload_n C 1 dX1_addWhole_37 rfl rfl ?_
  refine v_iload_n C 2 dX1_addWhole_38 rfl rfl ?_
  obtain ⟨r, h1, h⟩ := bind_el h
  obtain ⟨r_3, rfl⟩ : ∃ z, z = r := ⟨_, rfl⟩
  try dsimp only at h
  refine v_callNi (As := [.int x2]) (st := [.int x2, .ref (aL 0)]) (wr := [(aL 0, .inr (1, [.ref (aL 1), .ref (aL 2), .ref (aL 3), .ref (aL 4), .ref (aL 5), .ref (aL 6), .ref (aL 7), .int size_L, .int tracks_L])), (aL 1, .inl (cI, 38, .inl netOf_L)), (aL 2, .inl (cI, 38, .inl left_L)), (aL 3, .inl (cI, 38, .inl right_L)), (aL 4, .inl (cI, 38, .inl trackOf_L)), (aL 5, .inl (cI, 38, .inl touched_L)), (aL 6, .inl (cJ, 38, .inr (.inl below_L))), (aL 7, .inl (cI, 38, .inl byLeft_L))]) (w1 := (wP cI cJ aP top_P bottom_P)) (ws' := (wLP cI cJ aL aP netOf_L left_L right_L trackOf_L touched_L below_L byLeft_L size_L tracks_L top_P bottom_P)) (isC := [8, 9, 10]) (isR := [0, 1, 2, 3, 4, 5, 6, 7]) (pm := [0, 1, 2, 3, 4, 5, 6, 7, 8, 9, 10]) C (c_X0_firstColumn l D cI cJ aP top_P bottom_P x2 r_3 h1) cw_X0_firstColumn 0 rfl rfl nw_20 dX1_addWhole_39 rfl ⟨Nat.le_of_ble_eq_true rfl, Nat.le_of_ble_eq_true rfl⟩ (Nat.le_of_ble_eq_true rfl) ⟨Nat.le_refl 0, Nat.le_refl 0⟩ ⟨rfl, rfl, rfl, rfl, by decide, rfl, rfl⟩ ?_
  refine v_aload_n C 1 dX1_addWhole_42 rfl rfl ?_
  refine v_iload_n C 2 dX1_addWhole_43 rfl rfl ?_
  obtain ⟨r, h1, h⟩ := bind_el h
  obtain ⟨r_4, rfl⟩ : ∃ z, z = r := ⟨_, rfl⟩
  try dsimp only at h
  refine v_callNi (As := [.int x2]) (st := [.int r_3, .int x2, .ref (aL 0)]) (wr := [(aL 0, .inr (1, [.ref (aL 1), .ref (aL 2), .ref (aL 3), .ref (aL 4), .ref (aL 5), .ref (aL 6), .ref (aL 7), .int size_L, .int tracks_L])), (aL 1, .inl (cI, 38, .inl netOf_L)), (aL 2, .inl (cI, 38, .inl left_L)), (aL 3, .inl (cI, 38, .inl right_L)), (aL 4, .inl (cI, 38, .inl trackOf_L)), (aL 5, .inl (cI, 38, .inl touched_L)), (aL 6, .inl (cJ, 38, .inr (.inl below_L))), (aL 7, .inl (cI, 38, .inl byLeft_L))]) (w1 := (wP cI cJ aP top_P bottom_P)) (ws' := (wLP cI cJ aL aP netOf_L left_L right_L trackOf_L touched_L below_L byLeft_L size_L tracks_L top_P bottom_P)) (isC := [8, 9, 10]) (isR := [0, 1, 2, 3, 4, 5, 6, 7]) (pm := [0, 1, 2, 3, 4, 5, 6, 7, 8, 9, 10]) C (c_X0_lastColumn l D cI cJ aP top_P bottom_P x2 r_4 h1) cw_X0_lastColumn 0 rfl rfl nw_21 dX1_addWhole_44 rfl ⟨Nat.le_of_ble_eq_true rfl, Nat.le_of_ble_eq_true rfl⟩ (Nat.le_of_ble_eq_true rfl) ⟨Nat.le_refl 0, Nat.le_refl 0⟩ ⟨rfl, rfl, rfl, rfl, by decide, rfl, rfl⟩ ?_
  refine v_iload_n C 3 dX1_addWhole_47 rfl rfl ?_
  obtain ⟨r, h1, h⟩ := bind_el h
  obtain ⟨netOf_L_5, left_L_6, right_L_7, touched_L_8, size_L_9⟩ := r
  try dsimp only at h
  refine v_callVv (As := [.int x2, .int r_3, .int r_4, .int x3_2]) (st := []) (wr := [(aP 0, .inr (0, [.ref (aP 1), .ref (aP 2)])), (aP 1, .inl (cI, 20, .inl top_P)), (aP 2, .inl (cI, 20, .inl bottom_P))]) (w1 := (wL cI cJ aL netOf_L_5 left_L_6 right_L_7 trackOf_L touched_L_8 below_L byLeft_L size_L_9 tracks_L)) (ws' := (wLP cI cJ aL aP netOf_L_5 left_L_6 right_L_7 trackOf_L touched_L_8 below_L byLeft_L size_L_9 tracks_L top_P bottom_P)) (isC := [0, 1, 2, 3, 4, 5, 6, 7]) (isR := [8, 9, 10]) (pm := [3, 4, 5, 6, 7, 8, 9, 10, 0, 1, 2]) C (c_X1_add l D cI cJ aL netOf_L left_L right_L trackOf_L touched_L below_L byLeft_L size_L tracks_L x2 r_3 r_4 x3_2 netOf_L_5 left_L_6 right_L_7 touched_L_8 size_L_9 h1) cw_X1_add 0 rfl rfl m1_187 dX1_addWhole_48 rfl ⟨Nat.le_of_ble_eq_true rfl, Nat.le_of_ble_eq_true rfl⟩ (Nat.le_of_ble_eq_true rfl) ⟨Nat.le_refl 0, Nat.le_refl 0⟩ ⟨rfl, rfl, rfl, rfl, by decide, rfl, rfl⟩ ?_
  cases h
  exact hk _ _ dX1_addWhole_51
def f_X1_addPieces_B5 (x2 : Int32) (top_P : (Nat → Int32)) (bottom_P : (Nat → Int32)) : (Int32 × Int32 × (Nat → Int32) × (Nat → Int32) × (Nat → Int32) × (Nat → Int32) × Int32) → Option ((Int32 × Int32 × (Nat → Int32) × (Nat → Int32) × (Nat → Int32) × (Nat → Int32) × Int32) ⊕ ((Nat → Int32) × (Nat → Int32) × (Nat → Int32) × (Nat → Int32) × Int32))
  | (x3, x4, netOf_L, left_L, right_L, touched_L, size_L) => if 20 ≤ x4 then (some (.inr (netOf_L, left_L, right_L, touched_L, size_L))) else ((f_X0_has top_P bottom_P x2 x4).bind (fun r => match r with | r_1 => if r_1 = 0 then (some (.inl (x3, x4 + 1, netOf_L, left_L, right_L, touched_L, size_L))) else (if x3 = (-1) then (some (.inl (x4, x4 + 1, netOf_L, left_L, right_L, touched_L, size_L))) else ((f_X1_add netOf_L left_L right_L touched_L size_L x2 x3 x4 (((1 : Int32) <<< (x3 &&& 31)) ||| ((1 : Int32) <<< (x4 &&& 31)))).bind (fun r => match r with | (netOf_L_2, left_L_3, right_L_4, touched_L_5, size_L_6) => some (.inl (x4, x4 + 1, netOf_L_2, left_L_3, right_L_4, touched_L_5, size_L_6)))))))
def f_X1_addPieces (netOf_L : (Nat → Int32)) (left_L : (Nat → Int32)) (right_L : (Nat → Int32)) (touched_L : (Nat → Int32)) (size_L : Int32) (top_P : (Nat → Int32)) (bottom_P : (Nat → Int32)) (x2 : Int32) : Option ((Nat → Int32) × (Nat → Int32) × (Nat → Int32) × (Nat → Int32) × Int32) := (lp (f_X1_addPieces_B5 x2 top_P bottom_P) 64 (((-1), 0, netOf_L, left_L, right_L, touched_L, size_L))).bind (fun r => match r with | (netOf_L_7, left_L_8, right_L_9, touched_L_10, size_L_11) => some (netOf_L_7, left_L_8, right_L_9, touched_L_10, size_L_11))
theorem cw_X1_addPieces : CWv yX1_addPieces cX1_addPieces 5 none RX1 2 := ⟨m1_184, ms1_10, m1_4, m1_185, rfl, by decide, by decide, by decide +kernel⟩
set_option maxHeartbeats 4000000 in
set_option maxRecDepth 100000 in
theorem t_X1_addPieces_B5 {p : Program} {l : Launch} {e : Env} {s : State} {m : MethodId} {args : Array Value} {below : List Frame} {meth : Method} {c : Code} {D : va_G} {A : Nat → Prop} {cI cJ : ClassId} {Q : State → Prop} (C : Cx p s m args c cX1_addPieces 5 RX1 D A cI cJ) {aL : Nat → Nat} {aP : Nat → Nat} {x2 : Int32} {trackOf_L : (Nat → Int32)} {below_L : (Nat → Int64)} {byLeft_L : (Nat → Int32)} {tracks_L : Int32} {top_P : (Nat → Int32)} {bottom_P : (Nat → Int32)} (s8 : (Int32 × Int32 × (Nat → Int32) × (Nat → Int32) × (Nat → Int32) × (Nat → Int32) × Int32)) (o8 : (Int32 × Int32 × (Nat → Int32) × (Nat → Int32) × (Nat → Int32) × (Nat → Int32) × Int32) ⊕ ((Nat → Int32) × (Nat → Int32) × (Nat → Int32) × (Nat → Int32) × Int32)) (h : f_X1_addPieces_B5 x2 top_P bottom_P s8 = some o8) (hl : ∀ s8, o8 = .inl s8 → V p l e (rmO 1 24) s m args below meth c 5 D A 0 0 Q 5 [(0, .ref (aL 0)), (1, .ref (aP 0)), (2, .int x2), (3, .int s8.1), (4, .int s8.2.1)] [] (wLP cI cJ aL aP s8.2.2.1 s8.2.2.2.1 s8.2.2.2.2.1 trackOf_L s8.2.2.2.2.2.1 below_L byLeft_L s8.2.2.2.2.2.2 tracks_L top_P bottom_P)) (hx : ∀ r8, o8 = .inr r8 → V p l e (rmO 1 24) s m args below meth c 5 D A 0 0 Q 52 [] [] (wLP cI cJ aL aP r8.1 r8.2.1 r8.2.2.1 trackOf_L r8.2.2.2.1 below_L byLeft_L r8.2.2.2.2 tracks_L top_P bottom_P)) : V p l e (rmO 1 24) s m args below meth c 5 D A 0 0 Q 5 [(0, .ref (aL 0)), (1, .ref (aP 0)), (2, .int x2), (3, .int s8.1), (4, .int s8.2.1)] [] (wLP cI cJ aL aP s8.2.2.1 s8.2.2.2.1 s8.2.2.2.2.1 trackOf_L s8.2.2.2.2.2.1 below_L byLeft_L s8.2.2.2.2.2.2 tracks_L top_P bottom_P) := by
  obtain ⟨x3, x4, netOf_L, left_L, right_L, touched_L, size_L⟩ := s8
  unfold f_X1_addPieces_B5 at h
  show V p l e (rmO 1 24) s m args below meth c 5 D A 0 0 Q 5 [(0, .ref (aL 0)), (1, .ref (aP 0)), (2, .int x2), (3, .int x3), (4, .int x4)] [] (wLP cI cJ aL aP netOf_L left_L right_L trackOf_L touched_L below_L byLeft_L size_L tracks_L top_P bottom_P)
  refine v_iload C 4 dX1_addPieces_5 rfl ?_
  refine v_bipush (v := 20) C dX1_addPieces_7 (by decide) ?_
  refine v_icmp_ge (tgt := 52) C dX1_addPieces_9 (by decide) h (fun h => ?_) (fun h => ?_)
  · refine v_perm [] rfl ?_
    cases h
    exact hx _ rfl
  · refine v_aload_n C 1 dX1_addPieces_12 rfl rfl ?_
    refine v_iload_n C 2 dX1_addPieces_13 rfl rfl ?_
    refine v_iload C 4 dX1_addPieces_14 rfl ?_
    obtain ⟨r, h1, h⟩ := bind_el h
    obtain ⟨r_1, rfl⟩ : ∃ z, z = r := ⟨_, rfl⟩
    try dsimp only at h
    refine v_callNi (As := [.int x2, .int x4]) (st := []) (wr := [(aL 0, .inr (1, [.ref (aL 1), .ref (aL 2), .ref (aL 3), .ref (aL 4), .ref (aL 5), .ref (aL 6), .ref (aL 7), .int size_L, .int tracks_L])), (aL 1, .inl (cI, 38, .inl netOf_L)), (aL 2, .inl (cI, 38, .inl left_L)), (aL 3, .inl (cI, 38, .inl right_L)), (aL 4, .inl (cI, 38, .inl trackOf_L)), (aL 5, .inl (cI, 38, .inl touched_L)), (aL 6, .inl (cJ, 38, .inr (.inl below_L))), (aL 7, .inl (cI, 38, .inl byLeft_L))]) (w1 := (wP cI cJ aP top_P bottom_P)) (ws' := (wLP cI cJ aL aP netOf_L left_L right_L trackOf_L touched_L below_L byLeft_L size_L tracks_L top_P bottom_P)) (isC := [8, 9, 10]) (isR := [0, 1, 2, 3, 4, 5, 6, 7]) (pm := [0, 1, 2, 3, 4, 5, 6, 7, 8, 9, 10]) C (c_X0_has l D cI cJ aP top_P bottom_P x2 x4 r_1 h1) cw_X0_has 0 rfl rfl nw_19 dX1_addPieces_16 rfl ⟨Nat.le_of_ble_eq_true rfl, Nat.le_of_ble_eq_true rfl⟩ (Nat.le_of_ble_eq_true rfl) ⟨Nat.le_refl 0, Nat.le_refl 0⟩ ⟨rfl, rfl, rfl, rfl, by decide, rfl, rfl⟩ ?_
    refine v_if_eq (tgt := 46) C dX1_addPieces_19 (by decide) h (fun h => ?_) (fun h => ?_)
    · refine v_iinc C [(4, .int (x4 + 1)), (0, .ref (aL 0)), (1, .ref (aP 0)), (2, .int x2), (3, .int x3)] 4 dX1_addPieces_46 rfl rfl (by decide) rfl ?_
      refine v_goto (tgt := 5) C dX1_addPieces_49 (by decide) ?_
      refine v_perm [1, 2, 3, 4, 0] rfl ?_
      cases h
      exact hl _ rfl
    · refine v_iload_n C 3 dX1_addPieces_22 rfl rfl ?_
      refine v_iconst (v := (-1)) C dX1_addPieces_23 (by decide) ?_
      refine v_icmp_eq (tgt := 43) C dX1_addPieces_24 (by decide) h (fun h => ?_) (fun h => ?_)
      · refine v_iload C 4 dX1_addPieces_43 rfl ?_
        refine v_istore_n C [(3, .int x4), (0, .ref (aL 0)), (1, .ref (aP 0)), (2, .int x2), (4, .int x4)] dX1_addPieces_45 rfl (by decide) rfl ?_
        refine v_iinc C [(4, .int (x4 + 1)), (3, .int x4), (0, .ref (aL 0)), (1, .ref (aP 0)), (2, .int x2)] 4 dX1_addPieces_46 rfl rfl (by decide) rfl ?_
        refine v_goto (tgt := 5) C dX1_addPieces_49 (by decide) ?_
        refine v_perm [2, 3, 4, 1, 0] rfl ?_
        cases h
        exact hl _ rfl
      · refine v_aload_n C 0 dX1_addPieces_27 rfl rfl ?_
        refine v_iload_n C 2 dX1_addPieces_28 rfl rfl ?_
        refine v_iload_n C 3 dX1_addPieces_29 rfl rfl ?_
        refine v_iload C 4 dX1_addPieces_30 rfl ?_
        refine v_iconst (v := 1) C dX1_addPieces_32 (by decide) ?_
        refine v_iload_n C 3 dX1_addPieces_33 rfl rfl ?_
        refine v_ishl C dX1_addPieces_34 ?_
        refine v_iconst (v := 1) C dX1_addPieces_35 (by decide) ?_
        refine v_iload C 4 dX1_addPieces_36 rfl ?_
        refine v_ishl C dX1_addPieces_38 ?_
        refine v_ior C dX1_addPieces_39 ?_
        obtain ⟨r, h1, h⟩ := bind_el h
        obtain ⟨netOf_L_2, left_L_3, right_L_4, touched_L_5, size_L_6⟩ := r
        try dsimp only at h
        refine v_callVv (As := [.int x2, .int x3, .int x4, .int (((1 : Int32) <<< (x3 &&& 31)) ||| ((1 : Int32) <<< (x4 &&& 31)))]) (st := []) (wr := [(aP 0, .inr (0, [.ref (aP 1), .ref (aP 2)])), (aP 1, .inl (cI, 20, .inl top_P)), (aP 2, .inl (cI, 20, .inl bottom_P))]) (w1 := (wL cI cJ aL netOf_L_2 left_L_3 right_L_4 trackOf_L touched_L_5 below_L byLeft_L size_L_6 tracks_L)) (ws' := (wLP cI cJ aL aP netOf_L_2 left_L_3 right_L_4 trackOf_L touched_L_5 below_L byLeft_L size_L_6 tracks_L top_P bottom_P)) (isC := [0, 1, 2, 3, 4, 5, 6, 7]) (isR := [8, 9, 10]) (pm := [3, 4, 5, 6, 7, 8, 9, 10, 0, 1, 2]) C (c_X1_add l D cI cJ aL netOf_L left_L right_L trackOf_L touched_L below_L byLeft_L size_L tracks_L x2 x3 x4 (((1 : Int32) <<< (x3 &&& 31)) ||| ((1 : Int32) <<< (x4 &&& 31))) netOf_L_2 left_L_3 right_L_4 touched_L_5 size_L_6 h1) cw_X1_add 0 rfl rfl m1_187 dX1_addPieces_40 rfl ⟨Nat.le_of_ble_eq_true rfl, Nat.le_of_ble_eq_true rfl⟩ (Nat.le_of_ble_eq_true rfl) ⟨Nat.le_refl 0, Nat.le_refl 0⟩ ⟨rfl, rfl, rfl, rfl, by decide, rfl, rfl⟩ ?_
        refine v_iload C 4 dX1_addPieces_43 rfl ?_
        refine v_istore_n C [(3, .int x4), (0, .ref (aL 0)), (1, .ref (aP 0)), (2, .int x2), (4, .int x4)] dX1_addPieces_45 rfl (by decide) rfl ?_
        refine v_iinc C [(4, .int (x4 + 1)), (3, .int x4), (0, .ref (aL 0)), (1, .ref (aP 0)), (2, .int x2)] 4 dX1_addPieces_46 rfl rfl (by decide) rfl ?_
        refine v_goto (tgt := 5) C dX1_addPieces_49 (by decide) ?_
        refine v_perm [2, 3, 4, 1, 0] rfl ?_
        cases h
        exact hl _ rfl
set_option maxHeartbeats 4000000 in
set_option maxRecDepth 100000 in
theorem t_X1_addPieces_L5 {p : Program} {l : Launch} {e : Env} {s : State} {m : MethodId} {args : Array Value} {below : List Frame} {meth : Method} {c : Code} {D : va_G} {A : Nat → Prop} {cI cJ : ClassId} {Q : State → Prop} (C : Cx p s m args c cX1_addPieces 5 RX1 D A cI cJ) {aL : Nat → Nat} {aP : Nat → Nat} {x2 : Int32} {trackOf_L : (Nat → Int32)} {below_L : (Nat → Int64)} {byLeft_L : (Nat → Int32)} {tracks_L : Int32} {top_P : (Nat → Int32)} {bottom_P : (Nat → Int32)} {n8 : Nat} {s9 : (Int32 × Int32 × (Nat → Int32) × (Nat → Int32) × (Nat → Int32) × (Nat → Int32) × Int32)} {o8 : ((Nat → Int32) × (Nat → Int32) × (Nat → Int32) × (Nat → Int32) × Int32)} (h : lp (f_X1_addPieces_B5 x2 top_P bottom_P) n8 s9 = some o8) (hk : V p l e (rmO 1 24) s m args below meth c 5 D A 0 0 Q 52 [] [] (wLP cI cJ aL aP o8.1 o8.2.1 o8.2.2.1 trackOf_L o8.2.2.2.1 below_L byLeft_L o8.2.2.2.2 tracks_L top_P bottom_P)) : V p l e (rmO 1 24) s m args below meth c 5 D A 0 0 Q 5 [(0, .ref (aL 0)), (1, .ref (aP 0)), (2, .int x2), (3, .int s9.1), (4, .int s9.2.1)] [] (wLP cI cJ aL aP s9.2.2.1 s9.2.2.2.1 s9.2.2.2.2.1 trackOf_L s9.2.2.2.2.2.1 below_L byLeft_L s9.2.2.2.2.2.2 tracks_L top_P bottom_P) := lp_ok (Pσ := fun s8 => V p l e (rmO 1 24) s m args below meth c 5 D A 0 0 Q 5 [(0, .ref (aL 0)), (1, .ref (aP 0)), (2, .int x2), (3, .int s8.1), (4, .int s8.2.1)] [] (wLP cI cJ aL aP s8.2.2.1 s8.2.2.2.1 s8.2.2.2.2.1 trackOf_L s8.2.2.2.2.2.1 below_L byLeft_L s8.2.2.2.2.2.2 tracks_L top_P bottom_P)) (Pρ := fun r8 => V p l e (rmO 1 24) s m args below meth c 5 D A 0 0 Q 52 [] [] (wLP cI cJ aL aP r8.1 r8.2.1 r8.2.2.1 trackOf_L r8.2.2.2.1 below_L byLeft_L r8.2.2.2.2 tracks_L top_P bottom_P)) (fun s o h hl hx => t_X1_addPieces_B5 C s o h hl hx) n8 s9 o8 h hk
set_option maxHeartbeats 4000000 in
set_option maxRecDepth 100000 in
theorem c_X1_addPieces (l : Launch) (D : va_G) (cI cJ : ClassId) (aL : Nat → Nat) (aP : Nat → Nat) (netOf_L : (Nat → Int32)) (left_L : (Nat → Int32)) (right_L : (Nat → Int32)) (trackOf_L : (Nat → Int32)) (touched_L : (Nat → Int32)) (below_L : (Nat → Int64)) (byLeft_L : (Nat → Int32)) (size_L : Int32) (tracks_L : Int32) (top_P : (Nat → Int32)) (bottom_P : (Nat → Int32)) (x2 : Int32) (netOf_L' : (Nat → Int32)) (left_L' : (Nat → Int32)) (right_L' : (Nat → Int32)) (touched_L' : (Nat → Int32)) (size_L' : Int32) (h : f_X1_addPieces netOf_L left_L right_L touched_L size_L top_P bottom_P x2 = some (netOf_L', left_L', right_L', touched_L', size_L')) : Ctv l D cI cJ yX1_addPieces cX1_addPieces 5 none 1 24 [.ref (aL 0), .ref (aP 0), .int x2] (wLP cI cJ aL aP netOf_L left_L right_L trackOf_L touched_L below_L byLeft_L size_L tracks_L top_P bottom_P) (wLP cI cJ aL aP netOf_L' left_L' right_L' trackOf_L touched_L' below_L byLeft_L size_L' tracks_L top_P bottom_P) := by
  refine mk_v [(0, .ref (aL 0)), (1, .ref (aP 0)), (2, .int x2)] (by decide) rfl (Nat.le_of_ble_eq_true rfl) rfl (fun p e s m args below meth c A Q C hk => ?_)
  unfold f_X1_addPieces at h
  refine v_iconst (v := (-1)) C dX1_addPieces_0 (by decide) ?_
  refine v_istore_n C [(3, .int (-1)), (0, .ref (aL 0)), (1, .ref (aP 0)), (2, .int x2)] dX1_addPieces_1 rfl (by decide) rfl ?_
  refine v_iconst (v := 0) C dX1_addPieces_2 (by decide) ?_
  refine v_istore C [(4, .int 0), (3, .int (-1)), (0, .ref (aL 0)), (1, .ref (aP 0)), (2, .int x2)] dX1_addPieces_3 (by decide) rfl ?_
  obtain ⟨r, h1, h⟩ := bind_el h
  refine v_perm [2, 3, 4, 1, 0] rfl ?_
  obtain ⟨netOf_L_7, left_L_8, right_L_9, touched_L_10, size_L_11⟩ := r
  refine t_X1_addPieces_L5 C (s9 := ((-1), 0, netOf_L, left_L, right_L, touched_L, size_L)) h1 ?_
  show V p l e (rmO 1 24) s m args below meth c 5 D A 0 0 Q 52 [] [] (wLP cI cJ aL aP netOf_L_7 left_L_8 right_L_9 trackOf_L touched_L_10 below_L byLeft_L size_L_11 tracks_L top_P bottom_P)
  try dsimp only at h
  cases h
  exact hk _ _ dX1_addPieces_52
def f_X1_touches (netOf_L : (Nat → Int32)) (touched_L : (Nat → Int32)) (x1 : Int32) (x2 : Int32) (x3 : Int32) : Option Int32 := bnd x1 38 (if (netOf_L x1.toNatClampNeg) = x3 then (bnd x1 38 (if (((touched_L x1.toNatClampNeg) >>> (x2 &&& 31)) &&& 1) = 0 then (some 0) else (some 1))) else (some 0))
theorem cw_X1_touches : CWv yX1_touches cX1_touches 4 (some .boolean) RX1 3 := ⟨m1_210, ms1_15, m1_4, m1_211, rfl, by decide, by decide, by decide +kernel⟩
set_option maxHeartbeats 4000000 in
set_option maxRecDepth 100000 in
theorem c_X1_touches (l : Launch) (D : va_G) (cI cJ : ClassId) (aL : Nat → Nat) (netOf_L : (Nat → Int32)) (left_L : (Nat → Int32)) (right_L : (Nat → Int32)) (trackOf_L : (Nat → Int32)) (touched_L : (Nat → Int32)) (below_L : (Nat → Int64)) (byLeft_L : (Nat → Int32)) (size_L : Int32) (tracks_L : Int32) (x1 : Int32) (x2 : Int32) (x3 : Int32) (r : Int32) (h : f_X1_touches netOf_L touched_L x1 x2 x3 = some r) : Cti l D cI cJ yX1_touches cX1_touches 4 (some .boolean) 0 0 [.ref (aL 0), .int x1, .int x2, .int x3] (wL cI cJ aL netOf_L left_L right_L trackOf_L touched_L below_L byLeft_L size_L tracks_L) (wL cI cJ aL netOf_L left_L right_L trackOf_L touched_L below_L byLeft_L size_L tracks_L) r := by
  refine mk_z [(0, .ref (aL 0)), (1, .int x1), (2, .int x2), (3, .int x3)] (by decide) rfl (Nat.le_of_ble_eq_true rfl) rfl (fun p e s m args below meth c A Q C hk => ?_)
  unfold f_X1_touches at h
  refine v_aload_n C 0 dX1_touches_0 rfl rfl ?_
  refine v_get C 0 0 iuX1 rfl rfl (by decide) m1_68 rfl rfl dX1_touches_1 ?_
  refine v_iload_n C 1 dX1_touches_4 rfl rfl ?_
  refine v_iald C 1 rfl dX1_touches_5 h (fun h => ?_)
  refine v_iload_n C 3 dX1_touches_6 rfl rfl ?_
  refine v_icmp_ne (tgt := 27) C dX1_touches_7 (by decide) h (fun h => ?_) (fun h => ?_)
  · refine v_aload_n C 0 dX1_touches_10 rfl rfl ?_
    refine v_get C 0 4 iuX1 rfl rfl (by decide) m1_76 rfl rfl dX1_touches_11 ?_
    refine v_iload_n C 1 dX1_touches_14 rfl rfl ?_
    refine v_iald C 5 rfl dX1_touches_15 h (fun h => ?_)
    refine v_iload_n C 2 dX1_touches_16 rfl rfl ?_
    refine v_ishr C dX1_touches_17 ?_
    refine v_iconst (v := 1) C dX1_touches_18 (by decide) ?_
    refine v_iand C dX1_touches_19 ?_
    refine v_if_eq (tgt := 27) C dX1_touches_20 (by decide) h (fun h => ?_) (fun h => ?_)
    · refine v_iconst (v := 0) C dX1_touches_27 (by decide) ?_
      cases h
      exact hk _ _ dX1_touches_28 (Or.inl rfl)
    · refine v_iconst (v := 1) C dX1_touches_23 (by decide) ?_
      refine v_goto (tgt := 28) C dX1_touches_24 (by decide) ?_
      cases h
      exact hk _ _ dX1_touches_28 (Or.inr rfl)
  · refine v_iconst (v := 0) C dX1_touches_27 (by decide) ?_
    cases h
    exact hk _ _ dX1_touches_28 (Or.inl rfl)
def f_X1_touching_B5 (x1 : Int32) (x2 : Int32) (netOf_L : (Nat → Int32)) (touched_L : (Nat → Int32)) (size_L : Int32) : (Int64 × Int32) → Option ((Int64 × Int32) ⊕ Int64)
  | (x3, x5) => if size_L ≤ x5 then (some (.inr x3)) else ((f_X1_touches netOf_L touched_L x5 x1 x2).bind (fun r => match r with | r_1 => if r_1 = 0 then (some (.inl (x3, x5 + 1))) else (some (.inl ((x3 ||| ((1 : Int64) <<< (x5.toInt64 &&& 63)), x5 + 1))))))
def f_X1_touching (netOf_L : (Nat → Int32)) (touched_L : (Nat → Int32)) (size_L : Int32) (x1 : Int32) (x2 : Int32) : Option Int64 := (lp (f_X1_touching_B5 x1 x2 netOf_L touched_L size_L) 64 (0, 0)).bind (fun r => match r with | x3_2 => some x3_2)
theorem cw_X1_touching : CWv yX1_touching cX1_touching 6 (some .long) RX1 2 := ⟨m1_206, ms1_14, m1_4, m1_207, rfl, by decide, by decide, by decide +kernel⟩
set_option maxHeartbeats 4000000 in
set_option maxRecDepth 100000 in
theorem t_X1_touching_B5 {p : Program} {l : Launch} {e : Env} {s : State} {m : MethodId} {args : Array Value} {below : List Frame} {meth : Method} {c : Code} {D : va_G} {A : Nat → Prop} {cI cJ : ClassId} {Q : State → Prop} (C : Cx p s m args c cX1_touching 6 RX1 D A cI cJ) {aL : Nat → Nat} {x1 : Int32} {x2 : Int32} {netOf_L : (Nat → Int32)} {left_L : (Nat → Int32)} {right_L : (Nat → Int32)} {trackOf_L : (Nat → Int32)} {touched_L : (Nat → Int32)} {below_L : (Nat → Int64)} {byLeft_L : (Nat → Int32)} {size_L : Int32} {tracks_L : Int32} (s8 : (Int64 × Int32)) (o8 : (Int64 × Int32) ⊕ Int64) (h : f_X1_touching_B5 x1 x2 netOf_L touched_L size_L s8 = some o8) (hl : ∀ s8, o8 = .inl s8 → V p l e (rmO 1 23) s m args below meth c 6 D A 0 0 Q 5 [(0, .ref (aL 0)), (1, .int x1), (2, .int x2), (3, .long s8.1), (5, .int s8.2)] [] (wL cI cJ aL netOf_L left_L right_L trackOf_L touched_L below_L byLeft_L size_L tracks_L)) (hx : ∀ r8, o8 = .inr r8 → V p l e (rmO 1 23) s m args below meth c 6 D A 0 0 Q 38 [(3, .long r8)] [] (wL cI cJ aL netOf_L left_L right_L trackOf_L touched_L below_L byLeft_L size_L tracks_L)) : V p l e (rmO 1 23) s m args below meth c 6 D A 0 0 Q 5 [(0, .ref (aL 0)), (1, .int x1), (2, .int x2), (3, .long s8.1), (5, .int s8.2)] [] (wL cI cJ aL netOf_L left_L right_L trackOf_L touched_L below_L byLeft_L size_L tracks_L) := by
  obtain ⟨x3, x5⟩ := s8
  unfold f_X1_touching_B5 at h
  show V p l e (rmO 1 23) s m args below meth c 6 D A 0 0 Q 5 [(0, .ref (aL 0)), (1, .int x1), (2, .int x2), (3, .long x3), (5, .int x5)] [] (wL cI cJ aL netOf_L left_L right_L trackOf_L touched_L below_L byLeft_L size_L tracks_L)
  refine v_iload C 4 dX1_touching_5 rfl ?_
  refine v_aload_n C 0 dX1_touching_7 rfl rfl ?_
  refine v_get C 0 7 iuX1 rfl rfl (by decide) m1_80 rfl rfl dX1_touching_8 ?_
  refine v_icmp_ge (tgt := 38) C dX1_touching_11 (by decide) h (fun h => ?_) (fun h => ?_)
  · refine v_perm [3] rfl ?_
    cases h
    exact hx _ rfl
  · refine v_aload_n C 0 dX1_touching_14 rfl rfl ?_
    refine v_iload C 4 dX1_touching_15 rfl ?_
    refine v_iload_n C 1 dX1_touching_17 rfl rfl ?_
    refine v_iload_n C 2 dX1_touching_18 rfl rfl ?_
    obtain ⟨r, h1, h⟩ := bind_el h
    obtain ⟨r_1, rfl⟩ : ∃ z, z = r := ⟨_, rfl⟩
    try dsimp only at h
    refine v_callVi (As := [.int x5, .int x1, .int x2]) (st := []) (wr := []) (w1 := (wL cI cJ aL netOf_L left_L right_L trackOf_L touched_L below_L byLeft_L size_L tracks_L)) (ws' := (wL cI cJ aL netOf_L left_L right_L trackOf_L touched_L below_L byLeft_L size_L tracks_L)) (isC := [0, 1, 2, 3, 4, 5, 6, 7]) (isR := []) (pm := [0, 1, 2, 3, 4, 5, 6, 7]) C (c_X1_touches l D cI cJ aL netOf_L left_L right_L trackOf_L touched_L below_L byLeft_L size_L tracks_L x5 x1 x2 r_1 h1) cw_X1_touches 0 rfl rfl m1_208 dX1_touching_19 rfl ⟨Nat.le_of_ble_eq_true rfl, Nat.le_of_ble_eq_true rfl⟩ (Nat.le_of_ble_eq_true rfl) ⟨Nat.le_refl 0, Nat.le_refl 0⟩ ⟨rfl, rfl, rfl, rfl, by decide, rfl, rfl⟩ ?_
    refine v_if_eq (tgt := 32) C dX1_touching_22 (by decide) h (fun h => ?_) (fun h => ?_)
    · refine v_iinc C [(5, .int (x5 + 1)), (0, .ref (aL 0)), (1, .int x1), (2, .int x2), (3, .long x3)] 4 dX1_touching_32 rfl rfl (by decide) rfl ?_
      refine v_goto (tgt := 5) C dX1_touching_35 (by decide) ?_
      refine v_perm [1, 2, 3, 4, 0] rfl ?_
      cases h
      exact hl _ rfl
    · refine v_lload_n C 3 dX1_touching_25 rfl rfl ?_
      refine v_lconst (v := 1) C dX1_touching_26 (by decide) ?_
      refine v_iload C 4 dX1_touching_27 rfl ?_
      refine v_lshl C dX1_touching_29 ?_
      refine v_lor C dX1_touching_30 ?_
      refine v_lstore_n C [(3, .long (x3 ||| ((1 : Int64) <<< (x5.toInt64 &&& 63)))), (0, .ref (aL 0)), (1, .int x1), (2, .int x2), (5, .int x5)] dX1_touching_31 rfl (by decide) rfl ?_
      refine v_iinc C [(5, .int (x5 + 1)), (3, .long (x3 ||| ((1 : Int64) <<< (x5.toInt64 &&& 63)))), (0, .ref (aL 0)), (1, .int x1), (2, .int x2)] 4 dX1_touching_32 rfl rfl (by decide) rfl ?_
      refine v_goto (tgt := 5) C dX1_touching_35 (by decide) ?_
      refine v_perm [2, 3, 4, 1, 0] rfl ?_
      cases h
      exact hl _ rfl
set_option maxHeartbeats 4000000 in
set_option maxRecDepth 100000 in
theorem t_X1_touching_L5 {p : Program} {l : Launch} {e : Env} {s : State} {m : MethodId} {args : Array Value} {below : List Frame} {meth : Method} {c : Code} {D : va_G} {A : Nat → Prop} {cI cJ : ClassId} {Q : State → Prop} (C : Cx p s m args c cX1_touching 6 RX1 D A cI cJ) {aL : Nat → Nat} {x1 : Int32} {x2 : Int32} {netOf_L : (Nat → Int32)} {left_L : (Nat → Int32)} {right_L : (Nat → Int32)} {trackOf_L : (Nat → Int32)} {touched_L : (Nat → Int32)} {below_L : (Nat → Int64)} {byLeft_L : (Nat → Int32)} {size_L : Int32} {tracks_L : Int32} {n8 : Nat} {s9 : (Int64 × Int32)} {o8 : Int64} (h : lp (f_X1_touching_B5 x1 x2 netOf_L touched_L size_L) n8 s9 = some o8) (hk : V p l e (rmO 1 23) s m args below meth c 6 D A 0 0 Q 38 [(3, .long o8)] [] (wL cI cJ aL netOf_L left_L right_L trackOf_L touched_L below_L byLeft_L size_L tracks_L)) : V p l e (rmO 1 23) s m args below meth c 6 D A 0 0 Q 5 [(0, .ref (aL 0)), (1, .int x1), (2, .int x2), (3, .long s9.1), (5, .int s9.2)] [] (wL cI cJ aL netOf_L left_L right_L trackOf_L touched_L below_L byLeft_L size_L tracks_L) := lp_ok (Pσ := fun s8 => V p l e (rmO 1 23) s m args below meth c 6 D A 0 0 Q 5 [(0, .ref (aL 0)), (1, .int x1), (2, .int x2), (3, .long s8.1), (5, .int s8.2)] [] (wL cI cJ aL netOf_L left_L right_L trackOf_L touched_L below_L byLeft_L size_L tracks_L)) (Pρ := fun r8 => V p l e (rmO 1 23) s m args below meth c 6 D A 0 0 Q 38 [(3, .long r8)] [] (wL cI cJ aL netOf_L left_L right_L trackOf_L touched_L below_L byLeft_L size_L tracks_L)) (fun s o h hl hx => t_X1_touching_B5 C s o h hl hx) n8 s9 o8 h hk
set_option maxHeartbeats 4000000 in
set_option maxRecDepth 100000 in
theorem c_X1_touching (l : Launch) (D : va_G) (cI cJ : ClassId) (aL : Nat → Nat) (netOf_L : (Nat → Int32)) (left_L : (Nat → Int32)) (right_L : (Nat → Int32)) (trackOf_L : (Nat → Int32)) (touched_L : (Nat → Int32)) (below_L : (Nat → Int64)) (byLeft_L : (Nat → Int32)) (size_L : Int32) (tracks_L : Int32) (x1 : Int32) (x2 : Int32) (r : Int64) (h : f_X1_touching netOf_L touched_L size_L x1 x2 = some r) : Ctl l D cI cJ yX1_touching cX1_touching 6 (some .long) 1 23 [.ref (aL 0), .int x1, .int x2] (wL cI cJ aL netOf_L left_L right_L trackOf_L touched_L below_L byLeft_L size_L tracks_L) (wL cI cJ aL netOf_L left_L right_L trackOf_L touched_L below_L byLeft_L size_L tracks_L) r := by
  refine mk_l [(0, .ref (aL 0)), (1, .int x1), (2, .int x2)] (by decide) rfl (Nat.le_of_ble_eq_true rfl) rfl (fun p e s m args below meth c A Q C hk => ?_)
  unfold f_X1_touching at h
  refine v_lconst (v := 0) C dX1_touching_0 (by decide) ?_
  refine v_lstore_n C [(3, .long 0), (0, .ref (aL 0)), (1, .int x1), (2, .int x2)] dX1_touching_1 rfl (by decide) rfl ?_
  refine v_iconst (v := 0) C dX1_touching_2 (by decide) ?_
  refine v_istore C [(5, .int 0), (3, .long 0), (0, .ref (aL 0)), (1, .int x1), (2, .int x2)] dX1_touching_3 (by decide) rfl ?_
  obtain ⟨r, h1, h⟩ := bind_el h
  refine v_perm [2, 3, 4, 1, 0] rfl ?_
  obtain ⟨x3_2, rfl⟩ : ∃ z, z = r := ⟨_, rfl⟩
  refine t_X1_touching_L5 C (s9 := (0, 0)) h1 ?_
  show V p l e (rmO 1 23) s m args below meth c 6 D A 0 0 Q 38 [(3, .long x3_2)] [] (wL cI cJ aL netOf_L left_L right_L trackOf_L touched_L below_L byLeft_L size_L tracks_L)
  try dsimp only at h
  refine v_lload_n C 0 dX1_touching_38 rfl rfl ?_
  cases h
  exact hk _ _ dX1_touching_39
def f_X1_addBelow_B3 (x1 : Int64) (x3 : Int64) (size_L : Int32) : (Int32 × (Nat → Int64)) → Option ((Int32 × (Nat → Int64)) ⊕ (Nat → Int64))
  | (x5, below_L) => if size_L ≤ x5 then (some (.inr below_L)) else ((f_X1_isIn x1 x5).bind (fun r => match r with | r_1 => if r_1 = 0 then (some (.inl (x5 + 1, below_L))) else (bnd x5 38 (bnd x5 38 (some (.inl ((x5 + 1, vp_updL below_L x5.toNatClampNeg ((below_L x5.toNatClampNeg) ||| x3)))))))))
def f_X1_addBelow (below_L : (Nat → Int64)) (size_L : Int32) (x1 : Int64) (x3 : Int64) : Option (Nat → Int64) := (lp (f_X1_addBelow_B3 x1 x3 size_L) 64 (0, below_L)).bind (fun r => match r with | below_L_2 => some below_L_2)
theorem cw_X1_addBelow : CWv yX1_addBelow cX1_addBelow 6 none RX1 2 := ⟨m1_214, ms2_0, m1_4, m1_215, rfl, by decide, by decide, by decide +kernel⟩
set_option maxHeartbeats 4000000 in
set_option maxRecDepth 100000 in
theorem t_X1_addBelow_B3 {p : Program} {l : Launch} {e : Env} {s : State} {m : MethodId} {args : Array Value} {below : List Frame} {meth : Method} {c : Code} {D : va_G} {A : Nat → Prop} {cI cJ : ClassId} {Q : State → Prop} (C : Cx p s m args c cX1_addBelow 6 RX1 D A cI cJ) {aL : Nat → Nat} {x1 : Int64} {x3 : Int64} {netOf_L : (Nat → Int32)} {left_L : (Nat → Int32)} {right_L : (Nat → Int32)} {trackOf_L : (Nat → Int32)} {touched_L : (Nat → Int32)} {byLeft_L : (Nat → Int32)} {size_L : Int32} {tracks_L : Int32} (s8 : (Int32 × (Nat → Int64))) (o8 : (Int32 × (Nat → Int64)) ⊕ (Nat → Int64)) (h : f_X1_addBelow_B3 x1 x3 size_L s8 = some o8) (hl : ∀ s8, o8 = .inl s8 → V p l e (rmO 1 22) s m args below meth c 6 D A 0 0 Q 3 [(0, .ref (aL 0)), (1, .long x1), (3, .long x3), (5, .int s8.1)] [] (wL cI cJ aL netOf_L left_L right_L trackOf_L touched_L s8.2 byLeft_L size_L tracks_L)) (hx : ∀ r8, o8 = .inr r8 → V p l e (rmO 1 22) s m args below meth c 6 D A 0 0 Q 38 [] [] (wL cI cJ aL netOf_L left_L right_L trackOf_L touched_L r8 byLeft_L size_L tracks_L)) : V p l e (rmO 1 22) s m args below meth c 6 D A 0 0 Q 3 [(0, .ref (aL 0)), (1, .long x1), (3, .long x3), (5, .int s8.1)] [] (wL cI cJ aL netOf_L left_L right_L trackOf_L touched_L s8.2 byLeft_L size_L tracks_L) := by
  obtain ⟨x5, below_L⟩ := s8
  unfold f_X1_addBelow_B3 at h
  show V p l e (rmO 1 22) s m args below meth c 6 D A 0 0 Q 3 [(0, .ref (aL 0)), (1, .long x1), (3, .long x3), (5, .int x5)] [] (wL cI cJ aL netOf_L left_L right_L trackOf_L touched_L below_L byLeft_L size_L tracks_L)
  refine v_iload C 3 dX1_addBelow_3 rfl ?_
  refine v_aload_n C 0 dX1_addBelow_5 rfl rfl ?_
  refine v_get C 0 7 iuX1 rfl rfl (by decide) m1_80 rfl rfl dX1_addBelow_6 ?_
  refine v_icmp_ge (tgt := 38) C dX1_addBelow_9 (by decide) h (fun h => ?_) (fun h => ?_)
  · refine v_perm [] rfl ?_
    cases h
    exact hx _ rfl
  · refine v_lload_n C 1 dX1_addBelow_12 rfl rfl ?_
    refine v_iload C 3 dX1_addBelow_13 rfl ?_
    obtain ⟨r, h1, h⟩ := bind_el h
    obtain ⟨r_1, rfl⟩ : ∃ z, z = r := ⟨_, rfl⟩
    try dsimp only at h
    refine v_callSi (As := [.long x1, .int x5]) (st := []) (wr := [(aL 0, .inr (1, [.ref (aL 1), .ref (aL 2), .ref (aL 3), .ref (aL 4), .ref (aL 5), .ref (aL 6), .ref (aL 7), .int size_L, .int tracks_L])), (aL 1, .inl (cI, 38, .inl netOf_L)), (aL 2, .inl (cI, 38, .inl left_L)), (aL 3, .inl (cI, 38, .inl right_L)), (aL 4, .inl (cI, 38, .inl trackOf_L)), (aL 5, .inl (cI, 38, .inl touched_L)), (aL 6, .inl (cJ, 38, .inr (.inl below_L))), (aL 7, .inl (cI, 38, .inl byLeft_L))]) (w1 := []) (ws' := (wL cI cJ aL netOf_L left_L right_L trackOf_L touched_L below_L byLeft_L size_L tracks_L)) (isC := []) (isR := [0, 1, 2, 3, 4, 5, 6, 7]) (pm := [0, 1, 2, 3, 4, 5, 6, 7]) C (c_X1_isIn l D cI cJ x1 x5 r_1 h1) cw_X1_isIn m1_216 dX1_addBelow_15 rfl ⟨Nat.le_of_ble_eq_true rfl, Nat.le_of_ble_eq_true rfl⟩ (Nat.le_of_ble_eq_true rfl) ⟨Nat.le_refl 0, Nat.le_refl 0⟩ ⟨rfl, rfl, rfl, rfl, by decide, rfl, rfl⟩ ?_
    refine v_if_eq (tgt := 32) C dX1_addBelow_18 (by decide) h (fun h => ?_) (fun h => ?_)
    · refine v_iinc C [(5, .int (x5 + 1)), (0, .ref (aL 0)), (1, .long x1), (3, .long x3)] 3 dX1_addBelow_32 rfl rfl (by decide) rfl ?_
      refine v_goto (tgt := 3) C dX1_addBelow_35 (by decide) ?_
      refine v_perm [1, 2, 3, 0] rfl ?_
      cases h
      exact hl _ rfl
    · refine v_aload_n C 0 dX1_addBelow_21 rfl rfl ?_
      refine v_get C 0 5 iuX1 rfl rfl (by decide) m1_77 rfl rfl dX1_addBelow_22 ?_
      refine v_iload C 3 dX1_addBelow_25 rfl ?_
      refine v_dup2 C dX1_addBelow_27 rfl rfl ?_
      refine v_lald C 6 rfl dX1_addBelow_28 h (fun h => ?_)
      refine v_lload_n C 2 dX1_addBelow_29 rfl rfl ?_
      refine v_lor C dX1_addBelow_30 ?_
      refine v_last C (wL cI cJ aL netOf_L left_L right_L trackOf_L touched_L (vp_updL below_L x5.toNatClampNeg ((below_L x5.toNatClampNeg) ||| x3)) byLeft_L size_L tracks_L) 6 rfl dX1_addBelow_31 h rfl (fun h => ?_)
      refine v_iinc C [(5, .int (x5 + 1)), (0, .ref (aL 0)), (1, .long x1), (3, .long x3)] 3 dX1_addBelow_32 rfl rfl (by decide) rfl ?_
      refine v_goto (tgt := 3) C dX1_addBelow_35 (by decide) ?_
      refine v_perm [1, 2, 3, 0] rfl ?_
      cases h
      exact hl _ rfl
set_option maxHeartbeats 4000000 in
set_option maxRecDepth 100000 in
theorem t_X1_addBelow_L3 {p : Program} {l : Launch} {e : Env} {s : State} {m : MethodId} {args : Array Value} {below : List Frame} {meth : Method} {c : Code} {D : va_G} {A : Nat → Prop} {cI cJ : ClassId} {Q : State → Prop} (C : Cx p s m args c cX1_addBelow 6 RX1 D A cI cJ) {aL : Nat → Nat} {x1 : Int64} {x3 : Int64} {netOf_L : (Nat → Int32)} {left_L : (Nat → Int32)} {right_L : (Nat → Int32)} {trackOf_L : (Nat → Int32)} {touched_L : (Nat → Int32)} {byLeft_L : (Nat → Int32)} {size_L : Int32} {tracks_L : Int32} {n8 : Nat} {s9 : (Int32 × (Nat → Int64))} {o8 : (Nat → Int64)} (h : lp (f_X1_addBelow_B3 x1 x3 size_L) n8 s9 = some o8) (hk : V p l e (rmO 1 22) s m args below meth c 6 D A 0 0 Q 38 [] [] (wL cI cJ aL netOf_L left_L right_L trackOf_L touched_L o8 byLeft_L size_L tracks_L)) : V p l e (rmO 1 22) s m args below meth c 6 D A 0 0 Q 3 [(0, .ref (aL 0)), (1, .long x1), (3, .long x3), (5, .int s9.1)] [] (wL cI cJ aL netOf_L left_L right_L trackOf_L touched_L s9.2 byLeft_L size_L tracks_L) := lp_ok (Pσ := fun s8 => V p l e (rmO 1 22) s m args below meth c 6 D A 0 0 Q 3 [(0, .ref (aL 0)), (1, .long x1), (3, .long x3), (5, .int s8.1)] [] (wL cI cJ aL netOf_L left_L right_L trackOf_L touched_L s8.2 byLeft_L size_L tracks_L)) (Pρ := fun r8 => V p l e (rmO 1 22) s m args below meth c 6 D A 0 0 Q 38 [] [] (wL cI cJ aL netOf_L left_L right_L trackOf_L touched_L r8 byLeft_L size_L tracks_L)) (fun s o h hl hx => t_X1_addBelow_B3 C s o h hl hx) n8 s9 o8 h hk
set_option maxHeartbeats 4000000 in
set_option maxRecDepth 100000 in
theorem c_X1_addBelow (l : Launch) (D : va_G) (cI cJ : ClassId) (aL : Nat → Nat) (netOf_L : (Nat → Int32)) (left_L : (Nat → Int32)) (right_L : (Nat → Int32)) (trackOf_L : (Nat → Int32)) (touched_L : (Nat → Int32)) (below_L : (Nat → Int64)) (byLeft_L : (Nat → Int32)) (size_L : Int32) (tracks_L : Int32) (x1 : Int64) (x3 : Int64) (below_L' : (Nat → Int64)) (h : f_X1_addBelow below_L size_L x1 x3 = some below_L') : Ctv l D cI cJ yX1_addBelow cX1_addBelow 6 none 1 22 [.ref (aL 0), .long x1, .long x3] (wL cI cJ aL netOf_L left_L right_L trackOf_L touched_L below_L byLeft_L size_L tracks_L) (wL cI cJ aL netOf_L left_L right_L trackOf_L touched_L below_L' byLeft_L size_L tracks_L) := by
  refine mk_v [(0, .ref (aL 0)), (1, .long x1), (3, .long x3)] (by decide) rfl (Nat.le_of_ble_eq_true rfl) rfl (fun p e s m args below meth c A Q C hk => ?_)
  unfold f_X1_addBelow at h
  refine v_iconst (v := 0) C dX1_addBelow_0 (by decide) ?_
  refine v_istore C [(5, .int 0), (0, .ref (aL 0)), (1, .long x1), (3, .long x3)] dX1_addBelow_1 (by decide) rfl ?_
  obtain ⟨r, h1, h⟩ := bind_el h
  refine v_perm [1, 2, 3, 0] rfl ?_
  obtain ⟨below_L_2, rfl⟩ : ∃ z, z = r := ⟨_, rfl⟩
  refine t_X1_addBelow_L3 C (s9 := (0, below_L)) h1 ?_
  show V p l e (rmO 1 22) s m args below meth c 6 D A 0 0 Q 38 [] [] (wL cI cJ aL netOf_L left_L right_L trackOf_L touched_L below_L_2 byLeft_L size_L tracks_L)
  try dsimp only at h
  cases h
  exact hk _ _ dX1_addBelow_38
def f_X1_findBelow_B10 (netOf_L : (Nat → Int32)) (touched_L : (Nat → Int32)) (size_L : Int32) (top_P : (Nat → Int32)) (bottom_P : (Nat → Int32)) : (Int32 × (Nat → Int64)) → Option ((Int32 × (Nat → Int64)) ⊕ (Nat → Int64))
  | (x2, below_L) => if 20 ≤ x2 then (some (.inr below_L)) else (bnd x2 20 (bnd x2 20 (if (top_P x2.toNatClampNeg) = (bottom_P x2.toNatClampNeg) then (some (.inl (x2 + 1, below_L))) else ((f_X1_touching netOf_L touched_L size_L x2 (top_P x2.toNatClampNeg)).bind (fun r => match r with | r_2 => (f_X1_touching netOf_L touched_L size_L x2 (bottom_P x2.toNatClampNeg)).bind (fun r => match r with | r_3 => (f_X1_addBelow below_L size_L r_2 r_3).bind (fun r => match r with | below_L_4 => some (.inl (x2 + 1, below_L_4)))))))))
def f_X1_findBelow (netOf_L : (Nat → Int32)) (touched_L : (Nat → Int32)) (below_L : (Nat → Int64)) (size_L : Int32) (top_P : (Nat → Int32)) (bottom_P : (Nat → Int32)) : Option (Nat → Int64) := (f_J7_fill_d0a16 below_L 0).bind (fun r => match r with | below_L_1 => (lp (f_X1_findBelow_B10 netOf_L touched_L size_L top_P bottom_P) 64 (0, below_L_1)).bind (fun r => match r with | below_L_5 => some below_L_5))
theorem cw_X1_findBelow : CWv yX1_findBelow cX1_findBelow 5 none RX1 1 := ⟨m1_199, ms1_13, m1_4, m1_200, rfl, by decide, by decide, by decide +kernel⟩
set_option maxHeartbeats 4000000 in
set_option maxRecDepth 100000 in
theorem t_X1_findBelow_B10 {p : Program} {l : Launch} {e : Env} {s : State} {m : MethodId} {args : Array Value} {below : List Frame} {meth : Method} {c : Code} {D : va_G} {A : Nat → Prop} {cI cJ : ClassId} {Q : State → Prop} (C : Cx p s m args c cX1_findBelow 5 RX1 D A cI cJ) {aL : Nat → Nat} {aP : Nat → Nat} {netOf_L : (Nat → Int32)} {left_L : (Nat → Int32)} {right_L : (Nat → Int32)} {trackOf_L : (Nat → Int32)} {touched_L : (Nat → Int32)} {byLeft_L : (Nat → Int32)} {size_L : Int32} {tracks_L : Int32} {top_P : (Nat → Int32)} {bottom_P : (Nat → Int32)} (s8 : (Int32 × (Nat → Int64))) (o8 : (Int32 × (Nat → Int64)) ⊕ (Nat → Int64)) (h : f_X1_findBelow_B10 netOf_L touched_L size_L top_P bottom_P s8 = some o8) (hl : ∀ s8, o8 = .inl s8 → V p l e (rmO 2 48) s m args below meth c 5 D A 0 0 Q 10 [(0, .ref (aL 0)), (1, .ref (aP 0)), (2, .int s8.1)] [] (wLP cI cJ aL aP netOf_L left_L right_L trackOf_L touched_L s8.2 byLeft_L size_L tracks_L top_P bottom_P)) (hx : ∀ r8, o8 = .inr r8 → V p l e (rmO 2 48) s m args below meth c 5 D A 0 0 Q 60 [] [] (wLP cI cJ aL aP netOf_L left_L right_L trackOf_L touched_L r8 byLeft_L size_L tracks_L top_P bottom_P)) : V p l e (rmO 2 48) s m args below meth c 5 D A 0 0 Q 10 [(0, .ref (aL 0)), (1, .ref (aP 0)), (2, .int s8.1)] [] (wLP cI cJ aL aP netOf_L left_L right_L trackOf_L touched_L s8.2 byLeft_L size_L tracks_L top_P bottom_P) := by
  obtain ⟨x2, below_L⟩ := s8
  unfold f_X1_findBelow_B10 at h
  show V p l e (rmO 2 48) s m args below meth c 5 D A 0 0 Q 10 [(0, .ref (aL 0)), (1, .ref (aP 0)), (2, .int x2)] [] (wLP cI cJ aL aP netOf_L left_L right_L trackOf_L touched_L below_L byLeft_L size_L tracks_L top_P bottom_P)
  refine v_iload_n C 2 dX1_findBelow_10 rfl rfl ?_
  refine v_bipush (v := 20) C dX1_findBelow_11 (by decide) ?_
  refine v_icmp_ge (tgt := 60) C dX1_findBelow_13 (by decide) h (fun h => ?_) (fun h => ?_)
  · refine v_perm [] rfl ?_
    cases h
    exact hx _ rfl
  · refine v_aload_n C 1 dX1_findBelow_16 rfl rfl ?_
    refine v_getN C 8 0 iuX0 rfl rfl (by decide) nw_1 rfl rfl dX1_findBelow_17 ?_
    refine v_iload_n C 2 dX1_findBelow_20 rfl rfl ?_
    refine v_iald C 9 rfl dX1_findBelow_21 h (fun h => ?_)
    refine v_istore_n C [(3, .int (top_P x2.toNatClampNeg)), (0, .ref (aL 0)), (1, .ref (aP 0)), (2, .int x2)] dX1_findBelow_22 rfl (by decide) rfl ?_
    refine v_aload_n C 2 dX1_findBelow_23 rfl rfl ?_
    refine v_getN C 8 1 iuX0 rfl rfl (by decide) nw_3 rfl rfl dX1_findBelow_24 ?_
    refine v_iload_n C 3 dX1_findBelow_27 rfl rfl ?_
    refine v_iald C 10 rfl dX1_findBelow_28 h (fun h => ?_)
    refine v_istore C [(4, .int (bottom_P x2.toNatClampNeg)), (3, .int (top_P x2.toNatClampNeg)), (0, .ref (aL 0)), (1, .ref (aP 0)), (2, .int x2)] dX1_findBelow_29 (by decide) rfl ?_
    refine v_iload_n C 1 dX1_findBelow_31 rfl rfl ?_
    refine v_iload C 0 dX1_findBelow_32 rfl ?_
    refine v_icmp_eq (tgt := 54) C dX1_findBelow_34 (by decide) h (fun h => ?_) (fun h => ?_)
    · refine v_iinc C [(2, .int (x2 + 1)), (4, .int (bottom_P x2.toNatClampNeg)), (3, .int (top_P x2.toNatClampNeg)), (0, .ref (aL 0)), (1, .ref (aP 0))] 4 dX1_findBelow_54 rfl rfl (by decide) rfl ?_
      refine v_goto (tgt := 10) C dX1_findBelow_57 (by decide) ?_
      refine v_perm [3, 4, 0] rfl ?_
      cases h
      exact hl _ rfl
    · refine v_aload_n C 2 dX1_findBelow_37 rfl rfl ?_
      refine v_aload_n C 2 dX1_findBelow_38 rfl rfl ?_
      refine v_iload_n C 4 dX1_findBelow_39 rfl rfl ?_
      refine v_iload_n C 1 dX1_findBelow_40 rfl rfl ?_
      obtain ⟨r, h1, h⟩ := bind_el h
      obtain ⟨r_2, rfl⟩ : ∃ z, z = r := ⟨_, rfl⟩
      try dsimp only at h
      refine v_callVl (As := [.int x2, .int (top_P x2.toNatClampNeg)]) (st := [.ref (aL 0)]) (wr := [(aP 0, .inr (0, [.ref (aP 1), .ref (aP 2)])), (aP 1, .inl (cI, 20, .inl top_P)), (aP 2, .inl (cI, 20, .inl bottom_P))]) (w1 := (wL cI cJ aL netOf_L left_L right_L trackOf_L touched_L below_L byLeft_L size_L tracks_L)) (ws' := (wLP cI cJ aL aP netOf_L left_L right_L trackOf_L touched_L below_L byLeft_L size_L tracks_L top_P bottom_P)) (isC := [0, 1, 2, 3, 4, 5, 6, 7]) (isR := [8, 9, 10]) (pm := [3, 4, 5, 6, 7, 8, 9, 10, 0, 1, 2]) C (c_X1_touching l D cI cJ aL netOf_L left_L right_L trackOf_L touched_L below_L byLeft_L size_L tracks_L x2 (top_P x2.toNatClampNeg) r_2 h1) cw_X1_touching 0 rfl rfl m1_204 dX1_findBelow_41 rfl ⟨Nat.le_of_ble_eq_true rfl, Nat.le_of_ble_eq_true rfl⟩ (Nat.le_of_ble_eq_true rfl) ⟨Nat.le_refl 0, Nat.le_refl 0⟩ ⟨rfl, rfl, rfl, rfl, by decide, rfl, rfl⟩ ?_
      refine v_aload_n C 2 dX1_findBelow_44 rfl rfl ?_
      refine v_iload_n C 4 dX1_findBelow_45 rfl rfl ?_
      refine v_iload C 0 dX1_findBelow_46 rfl ?_
      obtain ⟨r, h1, h⟩ := bind_el h
      obtain ⟨r_3, rfl⟩ : ∃ z, z = r := ⟨_, rfl⟩
      try dsimp only at h
      refine v_callVl (As := [.int x2, .int (bottom_P x2.toNatClampNeg)]) (st := [.long r_2, .ref (aL 0)]) (wr := [(aP 0, .inr (0, [.ref (aP 1), .ref (aP 2)])), (aP 1, .inl (cI, 20, .inl top_P)), (aP 2, .inl (cI, 20, .inl bottom_P))]) (w1 := (wL cI cJ aL netOf_L left_L right_L trackOf_L touched_L below_L byLeft_L size_L tracks_L)) (ws' := (wLP cI cJ aL aP netOf_L left_L right_L trackOf_L touched_L below_L byLeft_L size_L tracks_L top_P bottom_P)) (isC := [0, 1, 2, 3, 4, 5, 6, 7]) (isR := [8, 9, 10]) (pm := [3, 4, 5, 6, 7, 8, 9, 10, 0, 1, 2]) C (c_X1_touching l D cI cJ aL netOf_L left_L right_L trackOf_L touched_L below_L byLeft_L size_L tracks_L x2 (bottom_P x2.toNatClampNeg) r_3 h1) cw_X1_touching 0 rfl rfl m1_204 dX1_findBelow_48 rfl ⟨Nat.le_of_ble_eq_true rfl, Nat.le_of_ble_eq_true rfl⟩ (Nat.le_of_ble_eq_true rfl) ⟨Nat.le_refl 0, Nat.le_refl 0⟩ ⟨rfl, rfl, rfl, rfl, by decide, rfl, rfl⟩ ?_
      obtain ⟨r, h1, h⟩ := bind_el h
      obtain ⟨below_L_4, rfl⟩ : ∃ z, z = r := ⟨_, rfl⟩
      try dsimp only at h
      refine v_callVv (As := [.long r_2, .long r_3]) (st := []) (wr := [(aP 0, .inr (0, [.ref (aP 1), .ref (aP 2)])), (aP 1, .inl (cI, 20, .inl top_P)), (aP 2, .inl (cI, 20, .inl bottom_P))]) (w1 := (wL cI cJ aL netOf_L left_L right_L trackOf_L touched_L below_L_4 byLeft_L size_L tracks_L)) (ws' := (wLP cI cJ aL aP netOf_L left_L right_L trackOf_L touched_L below_L_4 byLeft_L size_L tracks_L top_P bottom_P)) (isC := [0, 1, 2, 3, 4, 5, 6, 7]) (isR := [8, 9, 10]) (pm := [3, 4, 5, 6, 7, 8, 9, 10, 0, 1, 2]) C (c_X1_addBelow l D cI cJ aL netOf_L left_L right_L trackOf_L touched_L below_L byLeft_L size_L tracks_L r_2 r_3 below_L_4 h1) cw_X1_addBelow 0 rfl rfl m1_212 dX1_findBelow_51 rfl ⟨Nat.le_of_ble_eq_true rfl, Nat.le_of_ble_eq_true rfl⟩ (Nat.le_of_ble_eq_true rfl) ⟨Nat.le_refl 0, Nat.le_refl 0⟩ ⟨rfl, rfl, rfl, rfl, by decide, rfl, rfl⟩ ?_
      refine v_iinc C [(2, .int (x2 + 1)), (4, .int (bottom_P x2.toNatClampNeg)), (3, .int (top_P x2.toNatClampNeg)), (0, .ref (aL 0)), (1, .ref (aP 0))] 4 dX1_findBelow_54 rfl rfl (by decide) rfl ?_
      refine v_goto (tgt := 10) C dX1_findBelow_57 (by decide) ?_
      refine v_perm [3, 4, 0] rfl ?_
      cases h
      exact hl _ rfl
set_option maxHeartbeats 4000000 in
set_option maxRecDepth 100000 in
theorem t_X1_findBelow_L10 {p : Program} {l : Launch} {e : Env} {s : State} {m : MethodId} {args : Array Value} {below : List Frame} {meth : Method} {c : Code} {D : va_G} {A : Nat → Prop} {cI cJ : ClassId} {Q : State → Prop} (C : Cx p s m args c cX1_findBelow 5 RX1 D A cI cJ) {aL : Nat → Nat} {aP : Nat → Nat} {netOf_L : (Nat → Int32)} {left_L : (Nat → Int32)} {right_L : (Nat → Int32)} {trackOf_L : (Nat → Int32)} {touched_L : (Nat → Int32)} {byLeft_L : (Nat → Int32)} {size_L : Int32} {tracks_L : Int32} {top_P : (Nat → Int32)} {bottom_P : (Nat → Int32)} {n8 : Nat} {s9 : (Int32 × (Nat → Int64))} {o8 : (Nat → Int64)} (h : lp (f_X1_findBelow_B10 netOf_L touched_L size_L top_P bottom_P) n8 s9 = some o8) (hk : V p l e (rmO 2 48) s m args below meth c 5 D A 0 0 Q 60 [] [] (wLP cI cJ aL aP netOf_L left_L right_L trackOf_L touched_L o8 byLeft_L size_L tracks_L top_P bottom_P)) : V p l e (rmO 2 48) s m args below meth c 5 D A 0 0 Q 10 [(0, .ref (aL 0)), (1, .ref (aP 0)), (2, .int s9.1)] [] (wLP cI cJ aL aP netOf_L left_L right_L trackOf_L touched_L s9.2 byLeft_L size_L tracks_L top_P bottom_P) := lp_ok (Pσ := fun s8 => V p l e (rmO 2 48) s m args below meth c 5 D A 0 0 Q 10 [(0, .ref (aL 0)), (1, .ref (aP 0)), (2, .int s8.1)] [] (wLP cI cJ aL aP netOf_L left_L right_L trackOf_L touched_L s8.2 byLeft_L size_L tracks_L top_P bottom_P)) (Pρ := fun r8 => V p l e (rmO 2 48) s m args below meth c 5 D A 0 0 Q 60 [] [] (wLP cI cJ aL aP netOf_L left_L right_L trackOf_L touched_L r8 byLeft_L size_L tracks_L top_P bottom_P)) (fun s o h hl hx => t_X1_findBelow_B10 C s o h hl hx) n8 s9 o8 h hk
set_option maxHeartbeats 4000000 in
set_option maxRecDepth 100000 in
theorem c_X1_findBelow (l : Launch) (D : va_G) (cI cJ : ClassId) (aL : Nat → Nat) (aP : Nat → Nat) (netOf_L : (Nat → Int32)) (left_L : (Nat → Int32)) (right_L : (Nat → Int32)) (trackOf_L : (Nat → Int32)) (touched_L : (Nat → Int32)) (below_L : (Nat → Int64)) (byLeft_L : (Nat → Int32)) (size_L : Int32) (tracks_L : Int32) (top_P : (Nat → Int32)) (bottom_P : (Nat → Int32)) (below_L' : (Nat → Int64)) (h : f_X1_findBelow netOf_L touched_L below_L size_L top_P bottom_P = some below_L') : Ctv l D cI cJ yX1_findBelow cX1_findBelow 5 none 2 48 [.ref (aL 0), .ref (aP 0)] (wLP cI cJ aL aP netOf_L left_L right_L trackOf_L touched_L below_L byLeft_L size_L tracks_L top_P bottom_P) (wLP cI cJ aL aP netOf_L left_L right_L trackOf_L touched_L below_L' byLeft_L size_L tracks_L top_P bottom_P) := by
  refine mk_v [(0, .ref (aL 0)), (1, .ref (aP 0))] (by decide) rfl (Nat.le_of_ble_eq_true rfl) rfl (fun p e s m args below meth c A Q C hk => ?_)
  unfold f_X1_findBelow at h
  refine v_aload_n C 0 dX1_findBelow_0 rfl rfl ?_
  refine v_get C 0 5 iuX1 rfl rfl (by decide) m1_77 rfl rfl dX1_findBelow_1 ?_
  refine v_lconst (v := 0) C dX1_findBelow_4 (by decide) ?_
  obtain ⟨r, h1, h⟩ := bind_el h
  obtain ⟨below_L_1, rfl⟩ : ∃ z, z = r := ⟨_, rfl⟩
  try dsimp only at h
  refine v_callSv (As := [.ref (aL 6), .long 0]) (st := []) (wr := [(aL 0, .inr (1, [.ref (aL 1), .ref (aL 2), .ref (aL 3), .ref (aL 4), .ref (aL 5), .ref (aL 6), .ref (aL 7), .int size_L, .int tracks_L])), (aL 1, .inl (cI, 38, .inl netOf_L)), (aL 2, .inl (cI, 38, .inl left_L)), (aL 3, .inl (cI, 38, .inl right_L)), (aL 4, .inl (cI, 38, .inl trackOf_L)), (aL 5, .inl (cI, 38, .inl touched_L)), (aL 7, .inl (cI, 38, .inl byLeft_L)), (aP 0, .inr (0, [.ref (aP 1), .ref (aP 2)])), (aP 1, .inl (cI, 20, .inl top_P)), (aP 2, .inl (cI, 20, .inl bottom_P))]) (w1 := (wAJ cI cJ (fun _ => aL 6) below_L_1)) (ws' := (wLP cI cJ aL aP netOf_L left_L right_L trackOf_L touched_L below_L_1 byLeft_L size_L tracks_L top_P bottom_P)) (isC := [6]) (isR := [0, 1, 2, 3, 4, 5, 7, 8, 9, 10]) (pm := [0, 1, 2, 3, 4, 5, 10, 6, 7, 8, 9]) C (c_J7_fill_d0a16 l D cI cJ (fun _ => aL 6) below_L 0 below_L_1 h1) cw_J7_fill_d0a16 m1_201 dX1_findBelow_5 rfl ⟨Nat.le_of_ble_eq_true rfl, Nat.le_of_ble_eq_true rfl⟩ (Nat.le_of_ble_eq_true rfl) ⟨Nat.le_refl 0, Nat.le_refl 0⟩ ⟨rfl, rfl, rfl, rfl, by decide, rfl, rfl⟩ ?_
  refine v_iconst (v := 0) C dX1_findBelow_8 (by decide) ?_
  refine v_istore_n C [(2, .int 0), (0, .ref (aL 0)), (1, .ref (aP 0))] dX1_findBelow_9 rfl (by decide) rfl ?_
  obtain ⟨r, h1, h⟩ := bind_el h
  refine v_perm [1, 2, 0] rfl ?_
  obtain ⟨below_L_5, rfl⟩ : ∃ z, z = r := ⟨_, rfl⟩
  refine t_X1_findBelow_L10 C (s9 := (0, below_L_1)) h1 ?_
  show V p l e (rmO 2 48) s m args below meth c 5 D A 0 0 Q 60 [] [] (wLP cI cJ aL aP netOf_L left_L right_L trackOf_L touched_L below_L_5 byLeft_L size_L tracks_L top_P bottom_P)
  try dsimp only at h
  cases h
  exact hk _ _ dX1_findBelow_60
def f_X1_draw_B6 (x2 : Int32) (top_P : (Nat → Int32)) (bottom_P : (Nat → Int32)) : (Int32 × (Nat → Int32) × (Nat → Int32) × (Nat → Int32) × (Nat → Int32) × Int32) → Option ((Int32 × (Nat → Int32) × (Nat → Int32) × (Nat → Int32) × (Nat → Int32) × Int32) ⊕ ((Nat → Int32) × (Nat → Int32) × (Nat → Int32) × (Nat → Int32) × Int32))
  | (x3, netOf_L, left_L, right_L, touched_L, size_L) => if 9 < x3 then (some (.inr (netOf_L, left_L, right_L, touched_L, size_L))) else ((f_X0_isLong top_P bottom_P x3).bind (fun r => match r with | r_3 => if r_3 = 0 then (some (.inl (x3 + 1, netOf_L, left_L, right_L, touched_L, size_L))) else (if x2 = 0 then ((f_X1_addWhole netOf_L left_L right_L touched_L size_L top_P bottom_P x3).bind (fun r => match r with | (netOf_L_4, left_L_5, right_L_6, touched_L_7, size_L_8) => some (.inl (x3 + 1, netOf_L_4, left_L_5, right_L_6, touched_L_7, size_L_8)))) else ((f_X1_addPieces netOf_L left_L right_L touched_L size_L top_P bottom_P x3).bind (fun r => match r with | (netOf_L_9, left_L_10, right_L_11, touched_L_12, size_L_13) => some (.inl (x3 + 1, netOf_L_9, left_L_10, right_L_11, touched_L_12, size_L_13)))))))
def f_X1_draw (netOf_L : (Nat → Int32)) (left_L : (Nat → Int32)) (right_L : (Nat → Int32)) (touched_L : (Nat → Int32)) (below_L : (Nat → Int64)) (top_P : (Nat → Int32)) (bottom_P : (Nat → Int32)) (x2 : Int32) : Option ((Nat → Int32) × (Nat → Int32) × (Nat → Int32) × (Nat → Int32) × (Nat → Int64) × Int32 × Int32) := (f_X1_clear).bind (fun r => match r with | (size_L_1, tracks_L_2) => (lp (f_X1_draw_B6 x2 top_P bottom_P) 64 (1, netOf_L, left_L, right_L, touched_L, size_L_1)).bind (fun r => match r with | (netOf_L_14, left_L_15, right_L_16, touched_L_17, size_L_18) => (f_X1_findBelow netOf_L_14 touched_L_17 below_L size_L_18 top_P bottom_P).bind (fun r => match r with | below_L_19 => some (netOf_L_14, left_L_15, right_L_16, touched_L_17, below_L_19, size_L_18, tracks_L_2))))
theorem cw_X1_draw : CWv yX1_draw cX1_draw 4 none RX1 2 := ⟨m1_175, ms1_8, m1_4, m1_176, rfl, by decide, by decide, by decide +kernel⟩
set_option maxHeartbeats 4000000 in
set_option maxRecDepth 100000 in
theorem t_X1_draw_B6 {p : Program} {l : Launch} {e : Env} {s : State} {m : MethodId} {args : Array Value} {below : List Frame} {meth : Method} {c : Code} {D : va_G} {A : Nat → Prop} {cI cJ : ClassId} {Q : State → Prop} (C : Cx p s m args c cX1_draw 4 RX1 D A cI cJ) {aL : Nat → Nat} {aP : Nat → Nat} {x2 : Int32} {trackOf_L : (Nat → Int32)} {below_L : (Nat → Int64)} {byLeft_L : (Nat → Int32)} {tracks_L : Int32} {top_P : (Nat → Int32)} {bottom_P : (Nat → Int32)} (s8 : (Int32 × (Nat → Int32) × (Nat → Int32) × (Nat → Int32) × (Nat → Int32) × Int32)) (o8 : (Int32 × (Nat → Int32) × (Nat → Int32) × (Nat → Int32) × (Nat → Int32) × Int32) ⊕ ((Nat → Int32) × (Nat → Int32) × (Nat → Int32) × (Nat → Int32) × Int32)) (h : f_X1_draw_B6 x2 top_P bottom_P s8 = some o8) (hl : ∀ s8, o8 = .inl s8 → V p l e (rmO 4 87) s m args below meth c 4 D A 0 0 Q 6 [(0, .ref (aL 0)), (1, .ref (aP 0)), (2, .int x2), (3, .int s8.1)] [] (wLP cI cJ aL aP s8.2.1 s8.2.2.1 s8.2.2.2.1 trackOf_L s8.2.2.2.2.1 below_L byLeft_L s8.2.2.2.2.2 tracks_L top_P bottom_P)) (hx : ∀ r8, o8 = .inr r8 → V p l e (rmO 4 87) s m args below meth c 4 D A 0 0 Q 45 [(0, .ref (aL 0)), (1, .ref (aP 0))] [] (wLP cI cJ aL aP r8.1 r8.2.1 r8.2.2.1 trackOf_L r8.2.2.2.1 below_L byLeft_L r8.2.2.2.2 tracks_L top_P bottom_P)) : V p l e (rmO 4 87) s m args below meth c 4 D A 0 0 Q 6 [(0, .ref (aL 0)), (1, .ref (aP 0)), (2, .int x2), (3, .int s8.1)] [] (wLP cI cJ aL aP s8.2.1 s8.2.2.1 s8.2.2.2.1 trackOf_L s8.2.2.2.2.1 below_L byLeft_L s8.2.2.2.2.2 tracks_L top_P bottom_P) := by
  obtain ⟨x3, netOf_L, left_L, right_L, touched_L, size_L⟩ := s8
  unfold f_X1_draw_B6 at h
  show V p l e (rmO 4 87) s m args below meth c 4 D A 0 0 Q 6 [(0, .ref (aL 0)), (1, .ref (aP 0)), (2, .int x2), (3, .int x3)] [] (wLP cI cJ aL aP netOf_L left_L right_L trackOf_L touched_L below_L byLeft_L size_L tracks_L top_P bottom_P)
  refine v_iload_n C 3 dX1_draw_6 rfl rfl ?_
  refine v_bipush (v := 9) C dX1_draw_7 (by decide) ?_
  refine v_icmp_gt (tgt := 45) C dX1_draw_9 (by decide) h (fun h => ?_) (fun h => ?_)
  · refine v_perm [0, 1] rfl ?_
    cases h
    exact hx _ rfl
  · refine v_aload_n C 1 dX1_draw_12 rfl rfl ?_
    refine v_iload_n C 3 dX1_draw_13 rfl rfl ?_
    obtain ⟨r, h1, h⟩ := bind_el h
    obtain ⟨r_3, rfl⟩ : ∃ z, z = r := ⟨_, rfl⟩
    try dsimp only at h
    refine v_callNi (As := [.int x3]) (st := []) (wr := [(aL 0, .inr (1, [.ref (aL 1), .ref (aL 2), .ref (aL 3), .ref (aL 4), .ref (aL 5), .ref (aL 6), .ref (aL 7), .int size_L, .int tracks_L])), (aL 1, .inl (cI, 38, .inl netOf_L)), (aL 2, .inl (cI, 38, .inl left_L)), (aL 3, .inl (cI, 38, .inl right_L)), (aL 4, .inl (cI, 38, .inl trackOf_L)), (aL 5, .inl (cI, 38, .inl touched_L)), (aL 6, .inl (cJ, 38, .inr (.inl below_L))), (aL 7, .inl (cI, 38, .inl byLeft_L))]) (w1 := (wP cI cJ aP top_P bottom_P)) (ws' := (wLP cI cJ aL aP netOf_L left_L right_L trackOf_L touched_L below_L byLeft_L size_L tracks_L top_P bottom_P)) (isC := [8, 9, 10]) (isR := [0, 1, 2, 3, 4, 5, 6, 7]) (pm := [0, 1, 2, 3, 4, 5, 6, 7, 8, 9, 10]) C (c_X0_isLong l D cI cJ aP top_P bottom_P x3 r_3 h1) cw_X0_isLong 0 rfl rfl nw_18 dX1_draw_14 rfl ⟨Nat.le_of_ble_eq_true rfl, Nat.le_of_ble_eq_true rfl⟩ (Nat.le_of_ble_eq_true rfl) ⟨Nat.le_refl 0, Nat.le_refl 0⟩ ⟨rfl, rfl, rfl, rfl, by decide, rfl, rfl⟩ ?_
    refine v_if_eq (tgt := 39) C dX1_draw_17 (by decide) h (fun h => ?_) (fun h => ?_)
    · refine v_iinc C [(3, .int (x3 + 1)), (0, .ref (aL 0)), (1, .ref (aP 0)), (2, .int x2)] 3 dX1_draw_39 rfl rfl (by decide) rfl ?_
      refine v_goto (tgt := 6) C dX1_draw_42 (by decide) ?_
      refine v_perm [1, 2, 3, 0] rfl ?_
      cases h
      exact hl _ rfl
    · refine v_iload_n C 2 dX1_draw_20 rfl rfl ?_
      refine v_if_eq (tgt := 33) C dX1_draw_21 (by decide) h (fun h => ?_) (fun h => ?_)
      · refine v_aload_n C 0 dX1_draw_33 rfl rfl ?_
        refine v_aload_n C 1 dX1_draw_34 rfl rfl ?_
        refine v_iload_n C 3 dX1_draw_35 rfl rfl ?_
        obtain ⟨r, h1, h⟩ := bind_el h
        obtain ⟨netOf_L_4, left_L_5, right_L_6, touched_L_7, size_L_8⟩ := r
        try dsimp only at h
        refine v_callVv (As := [.ref (aP 0), .int x3]) (st := []) (wr := []) (w1 := (wLP cI cJ aL aP netOf_L_4 left_L_5 right_L_6 trackOf_L touched_L_7 below_L byLeft_L size_L_8 tracks_L top_P bottom_P)) (ws' := (wLP cI cJ aL aP netOf_L_4 left_L_5 right_L_6 trackOf_L touched_L_7 below_L byLeft_L size_L_8 tracks_L top_P bottom_P)) (isC := [0, 1, 2, 3, 4, 5, 6, 7, 8, 9, 10]) (isR := []) (pm := [0, 1, 2, 3, 4, 5, 6, 7, 8, 9, 10]) C (c_X1_addWhole l D cI cJ aL aP netOf_L left_L right_L trackOf_L touched_L below_L byLeft_L size_L tracks_L top_P bottom_P x3 netOf_L_4 left_L_5 right_L_6 touched_L_7 size_L_8 h1) cw_X1_addWhole 0 rfl rfl m1_191 dX1_draw_36 rfl ⟨Nat.le_of_ble_eq_true rfl, Nat.le_of_ble_eq_true rfl⟩ (Nat.le_of_ble_eq_true rfl) ⟨Nat.le_refl 0, Nat.le_refl 0⟩ ⟨rfl, rfl, rfl, rfl, by decide, rfl, rfl⟩ ?_
        refine v_iinc C [(3, .int (x3 + 1)), (0, .ref (aL 0)), (1, .ref (aP 0)), (2, .int x2)] 3 dX1_draw_39 rfl rfl (by decide) rfl ?_
        refine v_goto (tgt := 6) C dX1_draw_42 (by decide) ?_
        refine v_perm [1, 2, 3, 0] rfl ?_
        cases h
        exact hl _ rfl
      · refine v_aload_n C 0 dX1_draw_24 rfl rfl ?_
        refine v_aload_n C 1 dX1_draw_25 rfl rfl ?_
        refine v_iload_n C 3 dX1_draw_26 rfl rfl ?_
        obtain ⟨r, h1, h⟩ := bind_el h
        obtain ⟨netOf_L_9, left_L_10, right_L_11, touched_L_12, size_L_13⟩ := r
        try dsimp only at h
        refine v_callVv (As := [.ref (aP 0), .int x3]) (st := []) (wr := []) (w1 := (wLP cI cJ aL aP netOf_L_9 left_L_10 right_L_11 trackOf_L touched_L_12 below_L byLeft_L size_L_13 tracks_L top_P bottom_P)) (ws' := (wLP cI cJ aL aP netOf_L_9 left_L_10 right_L_11 trackOf_L touched_L_12 below_L byLeft_L size_L_13 tracks_L top_P bottom_P)) (isC := [0, 1, 2, 3, 4, 5, 6, 7, 8, 9, 10]) (isR := []) (pm := [0, 1, 2, 3, 4, 5, 6, 7, 8, 9, 10]) C (c_X1_addPieces l D cI cJ aL aP netOf_L left_L right_L trackOf_L touched_L below_L byLeft_L size_L tracks_L top_P bottom_P x3 netOf_L_9 left_L_10 right_L_11 touched_L_12 size_L_13 h1) cw_X1_addPieces 0 rfl rfl m1_182 dX1_draw_27 rfl ⟨Nat.le_of_ble_eq_true rfl, Nat.le_of_ble_eq_true rfl⟩ (Nat.le_of_ble_eq_true rfl) ⟨Nat.le_refl 0, Nat.le_refl 0⟩ ⟨rfl, rfl, rfl, rfl, by decide, rfl, rfl⟩ ?_
        refine v_goto (tgt := 39) C dX1_draw_30 (by decide) ?_
        refine v_iinc C [(3, .int (x3 + 1)), (0, .ref (aL 0)), (1, .ref (aP 0)), (2, .int x2)] 3 dX1_draw_39 rfl rfl (by decide) rfl ?_
        refine v_goto (tgt := 6) C dX1_draw_42 (by decide) ?_
        refine v_perm [1, 2, 3, 0] rfl ?_
        cases h
        exact hl _ rfl
set_option maxHeartbeats 4000000 in
set_option maxRecDepth 100000 in
theorem t_X1_draw_L6 {p : Program} {l : Launch} {e : Env} {s : State} {m : MethodId} {args : Array Value} {below : List Frame} {meth : Method} {c : Code} {D : va_G} {A : Nat → Prop} {cI cJ : ClassId} {Q : State → Prop} (C : Cx p s m args c cX1_draw 4 RX1 D A cI cJ) {aL : Nat → Nat} {aP : Nat → Nat} {x2 : Int32} {trackOf_L : (Nat → Int32)} {below_L : (Nat → Int64)} {byLeft_L : (Nat → Int32)} {tracks_L : Int32} {top_P : (Nat → Int32)} {bottom_P : (Nat → Int32)} {n8 : Nat} {s9 : (Int32 × (Nat → Int32) × (Nat → Int32) × (Nat → Int32) × (Nat → Int32) × Int32)} {o8 : ((Nat → Int32) × (Nat → Int32) × (Nat → Int32) × (Nat → Int32) × Int32)} (h : lp (f_X1_draw_B6 x2 top_P bottom_P) n8 s9 = some o8) (hk : V p l e (rmO 4 87) s m args below meth c 4 D A 0 0 Q 45 [(0, .ref (aL 0)), (1, .ref (aP 0))] [] (wLP cI cJ aL aP o8.1 o8.2.1 o8.2.2.1 trackOf_L o8.2.2.2.1 below_L byLeft_L o8.2.2.2.2 tracks_L top_P bottom_P)) : V p l e (rmO 4 87) s m args below meth c 4 D A 0 0 Q 6 [(0, .ref (aL 0)), (1, .ref (aP 0)), (2, .int x2), (3, .int s9.1)] [] (wLP cI cJ aL aP s9.2.1 s9.2.2.1 s9.2.2.2.1 trackOf_L s9.2.2.2.2.1 below_L byLeft_L s9.2.2.2.2.2 tracks_L top_P bottom_P) := lp_ok (Pσ := fun s8 => V p l e (rmO 4 87) s m args below meth c 4 D A 0 0 Q 6 [(0, .ref (aL 0)), (1, .ref (aP 0)), (2, .int x2), (3, .int s8.1)] [] (wLP cI cJ aL aP s8.2.1 s8.2.2.1 s8.2.2.2.1 trackOf_L s8.2.2.2.2.1 below_L byLeft_L s8.2.2.2.2.2 tracks_L top_P bottom_P)) (Pρ := fun r8 => V p l e (rmO 4 87) s m args below meth c 4 D A 0 0 Q 45 [(0, .ref (aL 0)), (1, .ref (aP 0))] [] (wLP cI cJ aL aP r8.1 r8.2.1 r8.2.2.1 trackOf_L r8.2.2.2.1 below_L byLeft_L r8.2.2.2.2 tracks_L top_P bottom_P)) (fun s o h hl hx => t_X1_draw_B6 C s o h hl hx) n8 s9 o8 h hk
set_option maxHeartbeats 4000000 in
set_option maxRecDepth 100000 in
theorem c_X1_draw (l : Launch) (D : va_G) (cI cJ : ClassId) (aL : Nat → Nat) (aP : Nat → Nat) (netOf_L : (Nat → Int32)) (left_L : (Nat → Int32)) (right_L : (Nat → Int32)) (trackOf_L : (Nat → Int32)) (touched_L : (Nat → Int32)) (below_L : (Nat → Int64)) (byLeft_L : (Nat → Int32)) (size_L : Int32) (tracks_L : Int32) (top_P : (Nat → Int32)) (bottom_P : (Nat → Int32)) (x2 : Int32) (netOf_L' : (Nat → Int32)) (left_L' : (Nat → Int32)) (right_L' : (Nat → Int32)) (touched_L' : (Nat → Int32)) (below_L' : (Nat → Int64)) (size_L' : Int32) (tracks_L' : Int32) (h : f_X1_draw netOf_L left_L right_L touched_L below_L top_P bottom_P x2 = some (netOf_L', left_L', right_L', touched_L', below_L', size_L', tracks_L')) : Ctv l D cI cJ yX1_draw cX1_draw 4 none 4 87 [.ref (aL 0), .ref (aP 0), .int x2] (wLP cI cJ aL aP netOf_L left_L right_L trackOf_L touched_L below_L byLeft_L size_L tracks_L top_P bottom_P) (wLP cI cJ aL aP netOf_L' left_L' right_L' trackOf_L touched_L' below_L' byLeft_L size_L' tracks_L' top_P bottom_P) := by
  refine mk_v [(0, .ref (aL 0)), (1, .ref (aP 0)), (2, .int x2)] (by decide) rfl (Nat.le_of_ble_eq_true rfl) rfl (fun p e s m args below meth c A Q C hk => ?_)
  unfold f_X1_draw at h
  refine v_aload_n C 0 dX1_draw_0 rfl rfl ?_
  obtain ⟨r, h1, h⟩ := bind_el h
  obtain ⟨size_L_1, tracks_L_2⟩ := r
  try dsimp only at h
  refine v_callVv (As := []) (st := []) (wr := [(aP 0, .inr (0, [.ref (aP 1), .ref (aP 2)])), (aP 1, .inl (cI, 20, .inl top_P)), (aP 2, .inl (cI, 20, .inl bottom_P))]) (w1 := (wL cI cJ aL netOf_L left_L right_L trackOf_L touched_L below_L byLeft_L size_L_1 tracks_L_2)) (ws' := (wLP cI cJ aL aP netOf_L left_L right_L trackOf_L touched_L below_L byLeft_L size_L_1 tracks_L_2 top_P bottom_P)) (isC := [0, 1, 2, 3, 4, 5, 6, 7]) (isR := [8, 9, 10]) (pm := [3, 4, 5, 6, 7, 8, 9, 10, 0, 1, 2]) C (c_X1_clear l D cI cJ aL netOf_L left_L right_L trackOf_L touched_L below_L byLeft_L size_L tracks_L size_L_1 tracks_L_2 h1) cw_X1_clear 0 rfl rfl m1_177 dX1_draw_1 rfl ⟨Nat.le_of_ble_eq_true rfl, Nat.le_of_ble_eq_true rfl⟩ (Nat.le_of_ble_eq_true rfl) ⟨Nat.le_refl 0, Nat.le_refl 0⟩ ⟨rfl, rfl, rfl, rfl, by decide, rfl, rfl⟩ ?_
  refine v_iconst (v := 1) C dX1_draw_4 (by decide) ?_
  refine v_istore_n C [(3, .int 1), (0, .ref (aL 0)), (1, .ref (aP 0)), (2, .int x2)] dX1_draw_5 rfl (by decide) rfl ?_
  obtain ⟨r, h1, h⟩ := bind_el h
  refine v_perm [1, 2, 3, 0] rfl ?_
  obtain ⟨netOf_L_14, left_L_15, right_L_16, touched_L_17, size_L_18⟩ := r
  refine t_X1_draw_L6 C (s9 := (1, netOf_L, left_L, right_L, touched_L, size_L_1)) h1 ?_
  show V p l e (rmO 4 87) s m args below meth c 4 D A 0 0 Q 45 [(0, .ref (aL 0)), (1, .ref (aP 0))] [] (wLP cI cJ aL aP netOf_L_14 left_L_15 right_L_16 trackOf_L touched_L_17 below_L byLeft_L size_L_18 tracks_L_2 top_P bottom_P)
  try dsimp only at h
  refine v_aload_n C 0 dX1_draw_45 rfl rfl ?_
  refine v_aload_n C 1 dX1_draw_46 rfl rfl ?_
  obtain ⟨r, h1, h⟩ := bind_el h
  obtain ⟨below_L_19, rfl⟩ : ∃ z, z = r := ⟨_, rfl⟩
  try dsimp only at h
  refine v_callVv (As := [.ref (aP 0)]) (st := []) (wr := []) (w1 := (wLP cI cJ aL aP netOf_L_14 left_L_15 right_L_16 trackOf_L touched_L_17 below_L_19 byLeft_L size_L_18 tracks_L_2 top_P bottom_P)) (ws' := (wLP cI cJ aL aP netOf_L_14 left_L_15 right_L_16 trackOf_L touched_L_17 below_L_19 byLeft_L size_L_18 tracks_L_2 top_P bottom_P)) (isC := [0, 1, 2, 3, 4, 5, 6, 7, 8, 9, 10]) (isR := []) (pm := [0, 1, 2, 3, 4, 5, 6, 7, 8, 9, 10]) C (c_X1_findBelow l D cI cJ aL aP netOf_L_14 left_L_15 right_L_16 trackOf_L touched_L_17 below_L byLeft_L size_L_18 tracks_L_2 top_P bottom_P below_L_19 h1) cw_X1_findBelow 0 rfl rfl m1_197 dX1_draw_47 rfl ⟨Nat.le_of_ble_eq_true rfl, Nat.le_of_ble_eq_true rfl⟩ (Nat.le_of_ble_eq_true rfl) ⟨Nat.le_refl 0, Nat.le_refl 0⟩ ⟨rfl, rfl, rfl, rfl, by decide, rfl, rfl⟩ ?_
  cases h
  exact hk _ _ dX1_draw_50
def f_X1_countPairs_B4 (below_L : (Nat → Int64)) (size_L : Int32) : (Int32 × Int32) → Option ((Int32 × Int32) ⊕ Int32)
  | (x1, x2) => if size_L ≤ x2 then (some (.inr x1)) else (bnd x2 38 ((f_J13_bitCount_95d88 (below_L x2.toNatClampNeg)).bind (fun r => match r with | r_1 => some (.inl (x1 + r_1, x2 + 1)))))
def f_X1_countPairs (below_L : (Nat → Int64)) (size_L : Int32) : Option Int32 := (lp (f_X1_countPairs_B4 below_L size_L) 64 (0, 0)).bind (fun r => match r with | x1_2 => some x1_2)
theorem cw_X1_countPairs : CWv yX1_countPairs cX1_countPairs 3 (some .int) RX1 0 := ⟨m1_221, ms2_1, m1_4, m1_222, rfl, by decide, by decide, by decide +kernel⟩
set_option maxHeartbeats 4000000 in
set_option maxRecDepth 100000 in
theorem t_X1_countPairs_B4 {p : Program} {l : Launch} {e : Env} {s : State} {m : MethodId} {args : Array Value} {below : List Frame} {meth : Method} {c : Code} {D : va_G} {A : Nat → Prop} {cI cJ : ClassId} {Q : State → Prop} (C : Cx p s m args c cX1_countPairs 3 RX1 D A cI cJ) {aL : Nat → Nat} {netOf_L : (Nat → Int32)} {left_L : (Nat → Int32)} {right_L : (Nat → Int32)} {trackOf_L : (Nat → Int32)} {touched_L : (Nat → Int32)} {below_L : (Nat → Int64)} {byLeft_L : (Nat → Int32)} {size_L : Int32} {tracks_L : Int32} (s8 : (Int32 × Int32)) (o8 : (Int32 × Int32) ⊕ Int32) (h : f_X1_countPairs_B4 below_L size_L s8 = some o8) (hl : ∀ s8, o8 = .inl s8 → V p l e (rmO 1 21) s m args below meth c 3 D A 0 0 Q 4 [(0, .ref (aL 0)), (1, .int s8.1), (2, .int s8.2)] [] (wL cI cJ aL netOf_L left_L right_L trackOf_L touched_L below_L byLeft_L size_L tracks_L)) (hx : ∀ r8, o8 = .inr r8 → V p l e (rmO 1 21) s m args below meth c 3 D A 0 0 Q 30 [(1, .int r8)] [] (wL cI cJ aL netOf_L left_L right_L trackOf_L touched_L below_L byLeft_L size_L tracks_L)) : V p l e (rmO 1 21) s m args below meth c 3 D A 0 0 Q 4 [(0, .ref (aL 0)), (1, .int s8.1), (2, .int s8.2)] [] (wL cI cJ aL netOf_L left_L right_L trackOf_L touched_L below_L byLeft_L size_L tracks_L) := by
  obtain ⟨x1, x2⟩ := s8
  unfold f_X1_countPairs_B4 at h
  show V p l e (rmO 1 21) s m args below meth c 3 D A 0 0 Q 4 [(0, .ref (aL 0)), (1, .int x1), (2, .int x2)] [] (wL cI cJ aL netOf_L left_L right_L trackOf_L touched_L below_L byLeft_L size_L tracks_L)
  refine v_iload_n C 2 dX1_countPairs_4 rfl rfl ?_
  refine v_aload_n C 0 dX1_countPairs_5 rfl rfl ?_
  refine v_get C 0 7 iuX1 rfl rfl (by decide) m1_80 rfl rfl dX1_countPairs_6 ?_
  refine v_icmp_ge (tgt := 30) C dX1_countPairs_9 (by decide) h (fun h => ?_) (fun h => ?_)
  · refine v_perm [1] rfl ?_
    cases h
    exact hx _ rfl
  · refine v_iload_n C 1 dX1_countPairs_12 rfl rfl ?_
    refine v_aload_n C 0 dX1_countPairs_13 rfl rfl ?_
    refine v_get C 0 5 iuX1 rfl rfl (by decide) m1_77 rfl rfl dX1_countPairs_14 ?_
    refine v_iload_n C 2 dX1_countPairs_17 rfl rfl ?_
    refine v_lald C 6 rfl dX1_countPairs_18 h (fun h => ?_)
    obtain ⟨r, h1, h⟩ := bind_el h
    obtain ⟨r_1, rfl⟩ : ∃ z, z = r := ⟨_, rfl⟩
    try dsimp only at h
    refine v_callSi (As := [.long (below_L x2.toNatClampNeg)]) (st := [.int x1]) (wr := [(aL 0, .inr (1, [.ref (aL 1), .ref (aL 2), .ref (aL 3), .ref (aL 4), .ref (aL 5), .ref (aL 6), .ref (aL 7), .int size_L, .int tracks_L])), (aL 1, .inl (cI, 38, .inl netOf_L)), (aL 2, .inl (cI, 38, .inl left_L)), (aL 3, .inl (cI, 38, .inl right_L)), (aL 4, .inl (cI, 38, .inl trackOf_L)), (aL 5, .inl (cI, 38, .inl touched_L)), (aL 6, .inl (cJ, 38, .inr (.inl below_L))), (aL 7, .inl (cI, 38, .inl byLeft_L))]) (w1 := []) (ws' := (wL cI cJ aL netOf_L left_L right_L trackOf_L touched_L below_L byLeft_L size_L tracks_L)) (isC := []) (isR := [0, 1, 2, 3, 4, 5, 6, 7]) (pm := [0, 1, 2, 3, 4, 5, 6, 7]) C (c_J13_bitCount_95d88 l D cI cJ (below_L x2.toNatClampNeg) r_1 h1) cw_J13_bitCount_95d88 m1_223 dX1_countPairs_19 rfl ⟨Nat.le_of_ble_eq_true rfl, Nat.le_of_ble_eq_true rfl⟩ (Nat.le_of_ble_eq_true rfl) ⟨Nat.le_refl 0, Nat.le_refl 0⟩ ⟨rfl, rfl, rfl, rfl, by decide, rfl, rfl⟩ ?_
    refine v_iadd C dX1_countPairs_22 ?_
    refine v_istore_n C [(1, .int (x1 + r_1)), (0, .ref (aL 0)), (2, .int x2)] dX1_countPairs_23 rfl (by decide) rfl ?_
    refine v_iinc C [(2, .int (x2 + 1)), (1, .int (x1 + r_1)), (0, .ref (aL 0))] 2 dX1_countPairs_24 rfl rfl (by decide) rfl ?_
    refine v_goto (tgt := 4) C dX1_countPairs_27 (by decide) ?_
    refine v_perm [2, 1, 0] rfl ?_
    cases h
    exact hl _ rfl
set_option maxHeartbeats 4000000 in
set_option maxRecDepth 100000 in
theorem t_X1_countPairs_L4 {p : Program} {l : Launch} {e : Env} {s : State} {m : MethodId} {args : Array Value} {below : List Frame} {meth : Method} {c : Code} {D : va_G} {A : Nat → Prop} {cI cJ : ClassId} {Q : State → Prop} (C : Cx p s m args c cX1_countPairs 3 RX1 D A cI cJ) {aL : Nat → Nat} {netOf_L : (Nat → Int32)} {left_L : (Nat → Int32)} {right_L : (Nat → Int32)} {trackOf_L : (Nat → Int32)} {touched_L : (Nat → Int32)} {below_L : (Nat → Int64)} {byLeft_L : (Nat → Int32)} {size_L : Int32} {tracks_L : Int32} {n8 : Nat} {s9 : (Int32 × Int32)} {o8 : Int32} (h : lp (f_X1_countPairs_B4 below_L size_L) n8 s9 = some o8) (hk : V p l e (rmO 1 21) s m args below meth c 3 D A 0 0 Q 30 [(1, .int o8)] [] (wL cI cJ aL netOf_L left_L right_L trackOf_L touched_L below_L byLeft_L size_L tracks_L)) : V p l e (rmO 1 21) s m args below meth c 3 D A 0 0 Q 4 [(0, .ref (aL 0)), (1, .int s9.1), (2, .int s9.2)] [] (wL cI cJ aL netOf_L left_L right_L trackOf_L touched_L below_L byLeft_L size_L tracks_L) := lp_ok (Pσ := fun s8 => V p l e (rmO 1 21) s m args below meth c 3 D A 0 0 Q 4 [(0, .ref (aL 0)), (1, .int s8.1), (2, .int s8.2)] [] (wL cI cJ aL netOf_L left_L right_L trackOf_L touched_L below_L byLeft_L size_L tracks_L)) (Pρ := fun r8 => V p l e (rmO 1 21) s m args below meth c 3 D A 0 0 Q 30 [(1, .int r8)] [] (wL cI cJ aL netOf_L left_L right_L trackOf_L touched_L below_L byLeft_L size_L tracks_L)) (fun s o h hl hx => t_X1_countPairs_B4 C s o h hl hx) n8 s9 o8 h hk
set_option maxHeartbeats 4000000 in
set_option maxRecDepth 100000 in
theorem c_X1_countPairs (l : Launch) (D : va_G) (cI cJ : ClassId) (aL : Nat → Nat) (netOf_L : (Nat → Int32)) (left_L : (Nat → Int32)) (right_L : (Nat → Int32)) (trackOf_L : (Nat → Int32)) (touched_L : (Nat → Int32)) (below_L : (Nat → Int64)) (byLeft_L : (Nat → Int32)) (size_L : Int32) (tracks_L : Int32) (r : Int32) (h : f_X1_countPairs below_L size_L = some r) : Cti l D cI cJ yX1_countPairs cX1_countPairs 3 (some .int) 1 21 [.ref (aL 0)] (wL cI cJ aL netOf_L left_L right_L trackOf_L touched_L below_L byLeft_L size_L tracks_L) (wL cI cJ aL netOf_L left_L right_L trackOf_L touched_L below_L byLeft_L size_L tracks_L) r := by
  refine mk_i [(0, .ref (aL 0))] (by decide) rfl (Nat.le_of_ble_eq_true rfl) rfl (fun p e s m args below meth c A Q C hk => ?_)
  unfold f_X1_countPairs at h
  refine v_iconst (v := 0) C dX1_countPairs_0 (by decide) ?_
  refine v_istore_n C [(1, .int 0), (0, .ref (aL 0))] dX1_countPairs_1 rfl (by decide) rfl ?_
  refine v_iconst (v := 0) C dX1_countPairs_2 (by decide) ?_
  refine v_istore_n C [(2, .int 0), (1, .int 0), (0, .ref (aL 0))] dX1_countPairs_3 rfl (by decide) rfl ?_
  obtain ⟨r, h1, h⟩ := bind_el h
  refine v_perm [2, 1, 0] rfl ?_
  obtain ⟨x1_2, rfl⟩ : ∃ z, z = r := ⟨_, rfl⟩
  refine t_X1_countPairs_L4 C (s9 := (0, 0)) h1 ?_
  show V p l e (rmO 1 21) s m args below meth c 3 D A 0 0 Q 30 [(1, .int x1_2)] [] (wL cI cJ aL netOf_L left_L right_L trackOf_L touched_L below_L byLeft_L size_L tracks_L)
  try dsimp only at h
  refine v_iload_n C 0 dX1_countPairs_30 rfl rfl ?_
  cases h
  exact hk _ _ dX1_countPairs_31
def f_X1_sortByLeft_B12 (x2 : Int32) (left_L : (Nat → Int32)) (size_L : Int32) : (Int32 × Int32 × (Nat → Int32)) → Option ((Int32 × Int32 × (Nat → Int32)) ⊕ (Int32 × (Nat → Int32)))
  | (x1, x3, byLeft_L) => if size_L ≤ x3 then (some (.inr (x1, byLeft_L))) else (bnd x3 38 (if (left_L x3.toNatClampNeg) = x2 then (bnd x1 38 (some (.inl (x1 + 1, x3 + 1, upd byLeft_L x1.toNatClampNeg x3)))) else (some (.inl (x1, x3 + 1, byLeft_L)))))
def f_X1_sortByLeft_B4 (left_L : (Nat → Int32)) (size_L : Int32) : (Int32 × Int32 × (Nat → Int32)) → Option ((Int32 × Int32 × (Nat → Int32)) ⊕ (Nat → Int32))
  | (x1, x2, byLeft_L) => if 20 ≤ x2 then (some (.inr byLeft_L)) else ((lp (f_X1_sortByLeft_B12 x2 left_L size_L) 64 (x1, 0, byLeft_L)).bind (fun r => match r with | (x1_1, byLeft_L_2) => some (.inl (x1_1, x2 + 1, byLeft_L_2))))
def f_X1_sortByLeft (left_L : (Nat → Int32)) (byLeft_L : (Nat → Int32)) (size_L : Int32) : Option (Nat → Int32) := (lp (f_X1_sortByLeft_B4 left_L size_L) 64 (0, 0, byLeft_L)).bind (fun r => match r with | byLeft_L_3 => some byLeft_L_3)
theorem cw_X1_sortByLeft : CWv yX1_sortByLeft cX1_sortByLeft 4 none RX1 0 := ⟨m2_180, ms3_0, m1_4, m2_181, rfl, by decide, by decide, by decide +kernel⟩
set_option maxHeartbeats 4000000 in
set_option maxRecDepth 100000 in
theorem t_X1_sortByLeft_B12 {p : Program} {l : Launch} {e : Env} {s : State} {m : MethodId} {args : Array Value} {below : List Frame} {meth : Method} {c : Code} {D : va_G} {A : Nat → Prop} {cI cJ : ClassId} {Q : State → Prop} (C : Cx p s m args c cX1_sortByLeft 4 RX1 D A cI cJ) {aL : Nat → Nat} {x2 : Int32} {netOf_L : (Nat → Int32)} {left_L : (Nat → Int32)} {right_L : (Nat → Int32)} {trackOf_L : (Nat → Int32)} {touched_L : (Nat → Int32)} {below_L : (Nat → Int64)} {size_L : Int32} {tracks_L : Int32} (s8 : (Int32 × Int32 × (Nat → Int32))) (o8 : (Int32 × Int32 × (Nat → Int32)) ⊕ (Int32 × (Nat → Int32))) (h : f_X1_sortByLeft_B12 x2 left_L size_L s8 = some o8) (hl : ∀ s8, o8 = .inl s8 → V p l e (rmO 0 0) s m args below meth c 4 D A 0 0 Q 12 [(0, .ref (aL 0)), (1, .int s8.1), (2, .int x2), (3, .int s8.2.1)] [] (wL cI cJ aL netOf_L left_L right_L trackOf_L touched_L below_L s8.2.2 size_L tracks_L)) (hx : ∀ r8, o8 = .inr r8 → V p l e (rmO 0 0) s m args below meth c 4 D A 0 0 Q 46 [(0, .ref (aL 0)), (1, .int r8.1), (2, .int x2)] [] (wL cI cJ aL netOf_L left_L right_L trackOf_L touched_L below_L r8.2 size_L tracks_L)) : V p l e (rmO 0 0) s m args below meth c 4 D A 0 0 Q 12 [(0, .ref (aL 0)), (1, .int s8.1), (2, .int x2), (3, .int s8.2.1)] [] (wL cI cJ aL netOf_L left_L right_L trackOf_L touched_L below_L s8.2.2 size_L tracks_L) := by
  obtain ⟨x1, x3, byLeft_L⟩ := s8
  unfold f_X1_sortByLeft_B12 at h
  show V p l e (rmO 0 0) s m args below meth c 4 D A 0 0 Q 12 [(0, .ref (aL 0)), (1, .int x1), (2, .int x2), (3, .int x3)] [] (wL cI cJ aL netOf_L left_L right_L trackOf_L touched_L below_L byLeft_L size_L tracks_L)
  refine v_iload_n C 3 dX1_sortByLeft_12 rfl rfl ?_
  refine v_aload_n C 0 dX1_sortByLeft_13 rfl rfl ?_
  refine v_get C 0 7 iuX1 rfl rfl (by decide) m1_80 rfl rfl dX1_sortByLeft_14 ?_
  refine v_icmp_ge (tgt := 46) C dX1_sortByLeft_17 (by decide) h (fun h => ?_) (fun h => ?_)
  · refine v_perm [0, 1, 2] rfl ?_
    cases h
    exact hx _ rfl
  · refine v_aload_n C 0 dX1_sortByLeft_20 rfl rfl ?_
    refine v_get C 0 1 iuX1 rfl rfl (by decide) m1_70 rfl rfl dX1_sortByLeft_21 ?_
    refine v_iload_n C 3 dX1_sortByLeft_24 rfl rfl ?_
    refine v_iald C 2 rfl dX1_sortByLeft_25 h (fun h => ?_)
    refine v_iload_n C 2 dX1_sortByLeft_26 rfl rfl ?_
    refine v_icmp_ne (tgt := 40) C dX1_sortByLeft_27 (by decide) h (fun h => ?_) (fun h => ?_)
    · refine v_aload_n C 0 dX1_sortByLeft_30 rfl rfl ?_
      refine v_get C 0 6 iuX1 rfl rfl (by decide) m1_79 rfl rfl dX1_sortByLeft_31 ?_
      refine v_iload_n C 1 dX1_sortByLeft_34 rfl rfl ?_
      refine v_iload_n C 3 dX1_sortByLeft_35 rfl rfl ?_
      refine v_iast C (wL cI cJ aL netOf_L left_L right_L trackOf_L touched_L below_L (upd byLeft_L x1.toNatClampNeg x3) size_L tracks_L) 7 rfl dX1_sortByLeft_36 h rfl (fun h => ?_)
      refine v_iinc C [(1, .int (x1 + 1)), (0, .ref (aL 0)), (2, .int x2), (3, .int x3)] 1 dX1_sortByLeft_37 rfl rfl (by decide) rfl ?_
      refine v_iinc C [(3, .int (x3 + 1)), (1, .int (x1 + 1)), (0, .ref (aL 0)), (2, .int x2)] 3 dX1_sortByLeft_40 rfl rfl (by decide) rfl ?_
      refine v_goto (tgt := 12) C dX1_sortByLeft_43 (by decide) ?_
      refine v_perm [2, 1, 3, 0] rfl ?_
      cases h
      exact hl _ rfl
    · refine v_iinc C [(3, .int (x3 + 1)), (0, .ref (aL 0)), (1, .int x1), (2, .int x2)] 3 dX1_sortByLeft_40 rfl rfl (by decide) rfl ?_
      refine v_goto (tgt := 12) C dX1_sortByLeft_43 (by decide) ?_
      refine v_perm [1, 2, 3, 0] rfl ?_
      cases h
      exact hl _ rfl
set_option maxHeartbeats 4000000 in
set_option maxRecDepth 100000 in
theorem t_X1_sortByLeft_L12 {p : Program} {l : Launch} {e : Env} {s : State} {m : MethodId} {args : Array Value} {below : List Frame} {meth : Method} {c : Code} {D : va_G} {A : Nat → Prop} {cI cJ : ClassId} {Q : State → Prop} (C : Cx p s m args c cX1_sortByLeft 4 RX1 D A cI cJ) {aL : Nat → Nat} {x2 : Int32} {netOf_L : (Nat → Int32)} {left_L : (Nat → Int32)} {right_L : (Nat → Int32)} {trackOf_L : (Nat → Int32)} {touched_L : (Nat → Int32)} {below_L : (Nat → Int64)} {size_L : Int32} {tracks_L : Int32} {n8 : Nat} {s9 : (Int32 × Int32 × (Nat → Int32))} {o8 : (Int32 × (Nat → Int32))} (h : lp (f_X1_sortByLeft_B12 x2 left_L size_L) n8 s9 = some o8) (hk : V p l e (rmO 0 0) s m args below meth c 4 D A 0 0 Q 46 [(0, .ref (aL 0)), (1, .int o8.1), (2, .int x2)] [] (wL cI cJ aL netOf_L left_L right_L trackOf_L touched_L below_L o8.2 size_L tracks_L)) : V p l e (rmO 0 0) s m args below meth c 4 D A 0 0 Q 12 [(0, .ref (aL 0)), (1, .int s9.1), (2, .int x2), (3, .int s9.2.1)] [] (wL cI cJ aL netOf_L left_L right_L trackOf_L touched_L below_L s9.2.2 size_L tracks_L) := lp_ok (Pσ := fun s8 => V p l e (rmO 0 0) s m args below meth c 4 D A 0 0 Q 12 [(0, .ref (aL 0)), (1, .int s8.1), (2, .int x2), (3, .int s8.2.1)] [] (wL cI cJ aL netOf_L left_L right_L trackOf_L touched_L below_L s8.2.2 size_L tracks_L)) (Pρ := fun r8 => V p l e (rmO 0 0) s m args below meth c 4 D A 0 0 Q 46 [(0, .ref (aL 0)), (1, .int r8.1), (2, .int x2)] [] (wL cI cJ aL netOf_L left_L right_L trackOf_L touched_L below_L r8.2 size_L tracks_L)) (fun s o h hl hx => t_X1_sortByLeft_B12 C s o h hl hx) n8 s9 o8 h hk
set_option maxHeartbeats 4000000 in
set_option maxRecDepth 100000 in
theorem t_X1_sortByLeft_B4 {p : Program} {l : Launch} {e : Env} {s : State} {m : MethodId} {args : Array Value} {below : List Frame} {meth : Method} {c : Code} {D : va_G} {A : Nat → Prop} {cI cJ : ClassId} {Q : State → Prop} (C : Cx p s m args c cX1_sortByLeft 4 RX1 D A cI cJ) {aL : Nat → Nat} {netOf_L : (Nat → Int32)} {left_L : (Nat → Int32)} {right_L : (Nat → Int32)} {trackOf_L : (Nat → Int32)} {touched_L : (Nat → Int32)} {below_L : (Nat → Int64)} {size_L : Int32} {tracks_L : Int32} (s8 : (Int32 × Int32 × (Nat → Int32))) (o8 : (Int32 × Int32 × (Nat → Int32)) ⊕ (Nat → Int32)) (h : f_X1_sortByLeft_B4 left_L size_L s8 = some o8) (hl : ∀ s8, o8 = .inl s8 → V p l e (rmO 0 0) s m args below meth c 4 D A 0 0 Q 4 [(0, .ref (aL 0)), (1, .int s8.1), (2, .int s8.2.1)] [] (wL cI cJ aL netOf_L left_L right_L trackOf_L touched_L below_L s8.2.2 size_L tracks_L)) (hx : ∀ r8, o8 = .inr r8 → V p l e (rmO 0 0) s m args below meth c 4 D A 0 0 Q 52 [] [] (wL cI cJ aL netOf_L left_L right_L trackOf_L touched_L below_L r8 size_L tracks_L)) : V p l e (rmO 0 0) s m args below meth c 4 D A 0 0 Q 4 [(0, .ref (aL 0)), (1, .int s8.1), (2, .int s8.2.1)] [] (wL cI cJ aL netOf_L left_L right_L trackOf_L touched_L below_L s8.2.2 size_L tracks_L) := by
  obtain ⟨x1, x2, byLeft_L⟩ := s8
  unfold f_X1_sortByLeft_B4 at h
  show V p l e (rmO 0 0) s m args below meth c 4 D A 0 0 Q 4 [(0, .ref (aL 0)), (1, .int x1), (2, .int x2)] [] (wL cI cJ aL netOf_L left_L right_L trackOf_L touched_L below_L byLeft_L size_L tracks_L)
  refine v_iload_n C 2 dX1_sortByLeft_4 rfl rfl ?_
  refine v_bipush (v := 20) C dX1_sortByLeft_5 (by decide) ?_
  refine v_icmp_ge (tgt := 52) C dX1_sortByLeft_7 (by decide) h (fun h => ?_) (fun h => ?_)
  · refine v_perm [] rfl ?_
    cases h
    exact hx _ rfl
  · refine v_iconst (v := 0) C dX1_sortByLeft_10 (by decide) ?_
    refine v_istore_n C [(3, .int 0), (0, .ref (aL 0)), (1, .int x1), (2, .int x2)] dX1_sortByLeft_11 rfl (by decide) rfl ?_
    obtain ⟨r, h1, h⟩ := bind_el h
    refine v_perm [1, 2, 3, 0] rfl ?_
    obtain ⟨x1_1, byLeft_L_2⟩ := r
    refine t_X1_sortByLeft_L12 C (s9 := (x1, 0, byLeft_L)) h1 ?_
    show V p l e (rmO 0 0) s m args below meth c 4 D A 0 0 Q 46 [(0, .ref (aL 0)), (1, .int x1_1), (2, .int x2)] [] (wL cI cJ aL netOf_L left_L right_L trackOf_L touched_L below_L byLeft_L_2 size_L tracks_L)
    try dsimp only at h
    refine v_iinc C [(2, .int (x2 + 1)), (0, .ref (aL 0)), (1, .int x1_1)] 2 dX1_sortByLeft_46 rfl rfl (by decide) rfl ?_
    refine v_goto (tgt := 4) C dX1_sortByLeft_49 (by decide) ?_
    refine v_perm [1, 2, 0] rfl ?_
    cases h
    exact hl _ rfl
set_option maxHeartbeats 4000000 in
set_option maxRecDepth 100000 in
theorem t_X1_sortByLeft_L4 {p : Program} {l : Launch} {e : Env} {s : State} {m : MethodId} {args : Array Value} {below : List Frame} {meth : Method} {c : Code} {D : va_G} {A : Nat → Prop} {cI cJ : ClassId} {Q : State → Prop} (C : Cx p s m args c cX1_sortByLeft 4 RX1 D A cI cJ) {aL : Nat → Nat} {netOf_L : (Nat → Int32)} {left_L : (Nat → Int32)} {right_L : (Nat → Int32)} {trackOf_L : (Nat → Int32)} {touched_L : (Nat → Int32)} {below_L : (Nat → Int64)} {size_L : Int32} {tracks_L : Int32} {n8 : Nat} {s9 : (Int32 × Int32 × (Nat → Int32))} {o8 : (Nat → Int32)} (h : lp (f_X1_sortByLeft_B4 left_L size_L) n8 s9 = some o8) (hk : V p l e (rmO 0 0) s m args below meth c 4 D A 0 0 Q 52 [] [] (wL cI cJ aL netOf_L left_L right_L trackOf_L touched_L below_L o8 size_L tracks_L)) : V p l e (rmO 0 0) s m args below meth c 4 D A 0 0 Q 4 [(0, .ref (aL 0)), (1, .int s9.1), (2, .int s9.2.1)] [] (wL cI cJ aL netOf_L left_L right_L trackOf_L touched_L below_L s9.2.2 size_L tracks_L) := lp_ok (Pσ := fun s8 => V p l e (rmO 0 0) s m args below meth c 4 D A 0 0 Q 4 [(0, .ref (aL 0)), (1, .int s8.1), (2, .int s8.2.1)] [] (wL cI cJ aL netOf_L left_L right_L trackOf_L touched_L below_L s8.2.2 size_L tracks_L)) (Pρ := fun r8 => V p l e (rmO 0 0) s m args below meth c 4 D A 0 0 Q 52 [] [] (wL cI cJ aL netOf_L left_L right_L trackOf_L touched_L below_L r8 size_L tracks_L)) (fun s o h hl hx => t_X1_sortByLeft_B4 C s o h hl hx) n8 s9 o8 h hk
set_option maxHeartbeats 4000000 in
set_option maxRecDepth 100000 in
theorem c_X1_sortByLeft (l : Launch) (D : va_G) (cI cJ : ClassId) (aL : Nat → Nat) (netOf_L : (Nat → Int32)) (left_L : (Nat → Int32)) (right_L : (Nat → Int32)) (trackOf_L : (Nat → Int32)) (touched_L : (Nat → Int32)) (below_L : (Nat → Int64)) (byLeft_L : (Nat → Int32)) (size_L : Int32) (tracks_L : Int32) (byLeft_L' : (Nat → Int32)) (h : f_X1_sortByLeft left_L byLeft_L size_L = some byLeft_L') : Ctv l D cI cJ yX1_sortByLeft cX1_sortByLeft 4 none 0 0 [.ref (aL 0)] (wL cI cJ aL netOf_L left_L right_L trackOf_L touched_L below_L byLeft_L size_L tracks_L) (wL cI cJ aL netOf_L left_L right_L trackOf_L touched_L below_L byLeft_L' size_L tracks_L) := by
  refine mk_v [(0, .ref (aL 0))] (by decide) rfl (Nat.le_of_ble_eq_true rfl) rfl (fun p e s m args below meth c A Q C hk => ?_)
  unfold f_X1_sortByLeft at h
  refine v_iconst (v := 0) C dX1_sortByLeft_0 (by decide) ?_
  refine v_istore_n C [(1, .int 0), (0, .ref (aL 0))] dX1_sortByLeft_1 rfl (by decide) rfl ?_
  refine v_iconst (v := 0) C dX1_sortByLeft_2 (by decide) ?_
  refine v_istore_n C [(2, .int 0), (1, .int 0), (0, .ref (aL 0))] dX1_sortByLeft_3 rfl (by decide) rfl ?_
  obtain ⟨r, h1, h⟩ := bind_el h
  refine v_perm [2, 1, 0] rfl ?_
  obtain ⟨byLeft_L_3, rfl⟩ : ∃ z, z = r := ⟨_, rfl⟩
  refine t_X1_sortByLeft_L4 C (s9 := (0, 0, byLeft_L)) h1 ?_
  show V p l e (rmO 0 0) s m args below meth c 4 D A 0 0 Q 52 [] [] (wL cI cJ aL netOf_L left_L right_L trackOf_L touched_L below_L byLeft_L_3 size_L tracks_L)
  try dsimp only at h
  cases h
  exact hk _ _ dX1_sortByLeft_52
def f_X1_belowAnyOf_B5 (x1 : Int64) (below_L : (Nat → Int64)) (size_L : Int32) : (Int64 × Int32) → Option ((Int64 × Int32) ⊕ Int64)
  | (x3, x5) => if size_L ≤ x5 then (some (.inr x3)) else ((f_X1_isIn x1 x5).bind (fun r => match r with | r_1 => if r_1 = 0 then (some (.inl (x3, x5 + 1))) else (bnd x5 38 (some (.inl ((x3 ||| (below_L x5.toNatClampNeg), x5 + 1)))))))
def f_X1_belowAnyOf (below_L : (Nat → Int64)) (size_L : Int32) (x1 : Int64) : Option Int64 := (lp (f_X1_belowAnyOf_B5 x1 below_L size_L) 64 (0, 0)).bind (fun r => match r with | x3_2 => some x3_2)
theorem cw_X1_belowAnyOf : CWv yX1_belowAnyOf cX1_belowAnyOf 6 (some .long) RX1 1 := ⟨m2_184, ms3_1, m1_4, m2_185, rfl, by decide, by decide, by decide +kernel⟩
set_option maxHeartbeats 4000000 in
set_option maxRecDepth 100000 in
theorem t_X1_belowAnyOf_B5 {p : Program} {l : Launch} {e : Env} {s : State} {m : MethodId} {args : Array Value} {below : List Frame} {meth : Method} {c : Code} {D : va_G} {A : Nat → Prop} {cI cJ : ClassId} {Q : State → Prop} (C : Cx p s m args c cX1_belowAnyOf 6 RX1 D A cI cJ) {aL : Nat → Nat} {x1 : Int64} {netOf_L : (Nat → Int32)} {left_L : (Nat → Int32)} {right_L : (Nat → Int32)} {trackOf_L : (Nat → Int32)} {touched_L : (Nat → Int32)} {below_L : (Nat → Int64)} {byLeft_L : (Nat → Int32)} {size_L : Int32} {tracks_L : Int32} (s8 : (Int64 × Int32)) (o8 : (Int64 × Int32) ⊕ Int64) (h : f_X1_belowAnyOf_B5 x1 below_L size_L s8 = some o8) (hl : ∀ s8, o8 = .inl s8 → V p l e (rmO 1 22) s m args below meth c 6 D A 0 0 Q 5 [(0, .ref (aL 0)), (1, .long x1), (3, .long s8.1), (5, .int s8.2)] [] (wL cI cJ aL netOf_L left_L right_L trackOf_L touched_L below_L byLeft_L size_L tracks_L)) (hx : ∀ r8, o8 = .inr r8 → V p l e (rmO 1 22) s m args below meth c 6 D A 0 0 Q 39 [(3, .long r8)] [] (wL cI cJ aL netOf_L left_L right_L trackOf_L touched_L below_L byLeft_L size_L tracks_L)) : V p l e (rmO 1 22) s m args below meth c 6 D A 0 0 Q 5 [(0, .ref (aL 0)), (1, .long x1), (3, .long s8.1), (5, .int s8.2)] [] (wL cI cJ aL netOf_L left_L right_L trackOf_L touched_L below_L byLeft_L size_L tracks_L) := by
  obtain ⟨x3, x5⟩ := s8
  unfold f_X1_belowAnyOf_B5 at h
  show V p l e (rmO 1 22) s m args below meth c 6 D A 0 0 Q 5 [(0, .ref (aL 0)), (1, .long x1), (3, .long x3), (5, .int x5)] [] (wL cI cJ aL netOf_L left_L right_L trackOf_L touched_L below_L byLeft_L size_L tracks_L)
  refine v_iload C 3 dX1_belowAnyOf_5 rfl ?_
  refine v_aload_n C 0 dX1_belowAnyOf_7 rfl rfl ?_
  refine v_get C 0 7 iuX1 rfl rfl (by decide) m1_80 rfl rfl dX1_belowAnyOf_8 ?_
  refine v_icmp_ge (tgt := 39) C dX1_belowAnyOf_11 (by decide) h (fun h => ?_) (fun h => ?_)
  · refine v_perm [2] rfl ?_
    cases h
    exact hx _ rfl
  · refine v_lload_n C 1 dX1_belowAnyOf_14 rfl rfl ?_
    refine v_iload C 3 dX1_belowAnyOf_15 rfl ?_
    obtain ⟨r, h1, h⟩ := bind_el h
    obtain ⟨r_1, rfl⟩ : ∃ z, z = r := ⟨_, rfl⟩
    try dsimp only at h
    refine v_callSi (As := [.long x1, .int x5]) (st := []) (wr := [(aL 0, .inr (1, [.ref (aL 1), .ref (aL 2), .ref (aL 3), .ref (aL 4), .ref (aL 5), .ref (aL 6), .ref (aL 7), .int size_L, .int tracks_L])), (aL 1, .inl (cI, 38, .inl netOf_L)), (aL 2, .inl (cI, 38, .inl left_L)), (aL 3, .inl (cI, 38, .inl right_L)), (aL 4, .inl (cI, 38, .inl trackOf_L)), (aL 5, .inl (cI, 38, .inl touched_L)), (aL 6, .inl (cJ, 38, .inr (.inl below_L))), (aL 7, .inl (cI, 38, .inl byLeft_L))]) (w1 := []) (ws' := (wL cI cJ aL netOf_L left_L right_L trackOf_L touched_L below_L byLeft_L size_L tracks_L)) (isC := []) (isR := [0, 1, 2, 3, 4, 5, 6, 7]) (pm := [0, 1, 2, 3, 4, 5, 6, 7]) C (c_X1_isIn l D cI cJ x1 x5 r_1 h1) cw_X1_isIn m1_216 dX1_belowAnyOf_17 rfl ⟨Nat.le_of_ble_eq_true rfl, Nat.le_of_ble_eq_true rfl⟩ (Nat.le_of_ble_eq_true rfl) ⟨Nat.le_refl 0, Nat.le_refl 0⟩ ⟨rfl, rfl, rfl, rfl, by decide, rfl, rfl⟩ ?_
    refine v_if_eq (tgt := 33) C dX1_belowAnyOf_20 (by decide) h (fun h => ?_) (fun h => ?_)
    · refine v_iinc C [(5, .int (x5 + 1)), (0, .ref (aL 0)), (1, .long x1), (3, .long x3)] 3 dX1_belowAnyOf_33 rfl rfl (by decide) rfl ?_
      refine v_goto (tgt := 5) C dX1_belowAnyOf_36 (by decide) ?_
      refine v_perm [1, 2, 3, 0] rfl ?_
      cases h
      exact hl _ rfl
    · refine v_lload_n C 2 dX1_belowAnyOf_23 rfl rfl ?_
      refine v_aload_n C 0 dX1_belowAnyOf_24 rfl rfl ?_
      refine v_get C 0 5 iuX1 rfl rfl (by decide) m1_77 rfl rfl dX1_belowAnyOf_25 ?_
      refine v_iload C 3 dX1_belowAnyOf_28 rfl ?_
      refine v_lald C 6 rfl dX1_belowAnyOf_30 h (fun h => ?_)
      refine v_lor C dX1_belowAnyOf_31 ?_
      refine v_lstore_n C [(3, .long (x3 ||| (below_L x5.toNatClampNeg))), (0, .ref (aL 0)), (1, .long x1), (5, .int x5)] dX1_belowAnyOf_32 rfl (by decide) rfl ?_
      refine v_iinc C [(5, .int (x5 + 1)), (3, .long (x3 ||| (below_L x5.toNatClampNeg))), (0, .ref (aL 0)), (1, .long x1)] 3 dX1_belowAnyOf_33 rfl rfl (by decide) rfl ?_
      refine v_goto (tgt := 5) C dX1_belowAnyOf_36 (by decide) ?_
      refine v_perm [2, 3, 1, 0] rfl ?_
      cases h
      exact hl _ rfl
set_option maxHeartbeats 4000000 in
set_option maxRecDepth 100000 in
theorem t_X1_belowAnyOf_L5 {p : Program} {l : Launch} {e : Env} {s : State} {m : MethodId} {args : Array Value} {below : List Frame} {meth : Method} {c : Code} {D : va_G} {A : Nat → Prop} {cI cJ : ClassId} {Q : State → Prop} (C : Cx p s m args c cX1_belowAnyOf 6 RX1 D A cI cJ) {aL : Nat → Nat} {x1 : Int64} {netOf_L : (Nat → Int32)} {left_L : (Nat → Int32)} {right_L : (Nat → Int32)} {trackOf_L : (Nat → Int32)} {touched_L : (Nat → Int32)} {below_L : (Nat → Int64)} {byLeft_L : (Nat → Int32)} {size_L : Int32} {tracks_L : Int32} {n8 : Nat} {s9 : (Int64 × Int32)} {o8 : Int64} (h : lp (f_X1_belowAnyOf_B5 x1 below_L size_L) n8 s9 = some o8) (hk : V p l e (rmO 1 22) s m args below meth c 6 D A 0 0 Q 39 [(3, .long o8)] [] (wL cI cJ aL netOf_L left_L right_L trackOf_L touched_L below_L byLeft_L size_L tracks_L)) : V p l e (rmO 1 22) s m args below meth c 6 D A 0 0 Q 5 [(0, .ref (aL 0)), (1, .long x1), (3, .long s9.1), (5, .int s9.2)] [] (wL cI cJ aL netOf_L left_L right_L trackOf_L touched_L below_L byLeft_L size_L tracks_L) := lp_ok (Pσ := fun s8 => V p l e (rmO 1 22) s m args below meth c 6 D A 0 0 Q 5 [(0, .ref (aL 0)), (1, .long x1), (3, .long s8.1), (5, .int s8.2)] [] (wL cI cJ aL netOf_L left_L right_L trackOf_L touched_L below_L byLeft_L size_L tracks_L)) (Pρ := fun r8 => V p l e (rmO 1 22) s m args below meth c 6 D A 0 0 Q 39 [(3, .long r8)] [] (wL cI cJ aL netOf_L left_L right_L trackOf_L touched_L below_L byLeft_L size_L tracks_L)) (fun s o h hl hx => t_X1_belowAnyOf_B5 C s o h hl hx) n8 s9 o8 h hk
set_option maxHeartbeats 4000000 in
set_option maxRecDepth 100000 in
theorem c_X1_belowAnyOf (l : Launch) (D : va_G) (cI cJ : ClassId) (aL : Nat → Nat) (netOf_L : (Nat → Int32)) (left_L : (Nat → Int32)) (right_L : (Nat → Int32)) (trackOf_L : (Nat → Int32)) (touched_L : (Nat → Int32)) (below_L : (Nat → Int64)) (byLeft_L : (Nat → Int32)) (size_L : Int32) (tracks_L : Int32) (x1 : Int64) (r : Int64) (h : f_X1_belowAnyOf below_L size_L x1 = some r) : Ctl l D cI cJ yX1_belowAnyOf cX1_belowAnyOf 6 (some .long) 1 22 [.ref (aL 0), .long x1] (wL cI cJ aL netOf_L left_L right_L trackOf_L touched_L below_L byLeft_L size_L tracks_L) (wL cI cJ aL netOf_L left_L right_L trackOf_L touched_L below_L byLeft_L size_L tracks_L) r := by
  refine mk_l [(0, .ref (aL 0)), (1, .long x1)] (by decide) rfl (Nat.le_of_ble_eq_true rfl) rfl (fun p e s m args below meth c A Q C hk => ?_)
  unfold f_X1_belowAnyOf at h
  refine v_lconst (v := 0) C dX1_belowAnyOf_0 (by decide) ?_
  refine v_lstore_n C [(3, .long 0), (0, .ref (aL 0)), (1, .long x1)] dX1_belowAnyOf_1 rfl (by decide) rfl ?_
  refine v_iconst (v := 0) C dX1_belowAnyOf_2 (by decide) ?_
  refine v_istore C [(5, .int 0), (3, .long 0), (0, .ref (aL 0)), (1, .long x1)] dX1_belowAnyOf_3 (by decide) rfl ?_
  obtain ⟨r, h1, h⟩ := bind_el h
  refine v_perm [2, 3, 1, 0] rfl ?_
  obtain ⟨x3_2, rfl⟩ : ∃ z, z = r := ⟨_, rfl⟩
  refine t_X1_belowAnyOf_L5 C (s9 := (0, 0)) h1 ?_
  show V p l e (rmO 1 22) s m args below meth c 6 D A 0 0 Q 39 [(3, .long x3_2)] [] (wL cI cJ aL netOf_L left_L right_L trackOf_L touched_L below_L byLeft_L size_L tracks_L)
  try dsimp only at h
  refine v_lload_n C 0 dX1_belowAnyOf_39 rfl rfl ?_
  cases h
  exact hk _ _ dX1_belowAnyOf_40
def f_X1_fitsBehind (netOf_L : (Nat → Int32)) (left_L : (Nat → Int32)) (right_L : (Nat → Int32)) (x1 : Int32) (x2 : Int32) : Option Int32 := if x1 = (-1) then (some 1) else (bnd x2 38 (bnd x1 38 (if (left_L x2.toNatClampNeg) ≤ (right_L x1.toNatClampNeg) then (bnd x2 38 (bnd x1 38 (if (left_L x2.toNatClampNeg) = (right_L x1.toNatClampNeg) then (bnd x2 38 (bnd x1 38 (if (netOf_L x2.toNatClampNeg) = (netOf_L x1.toNatClampNeg) then (some 1) else (some 0)))) else (some 0)))) else (some 1))))
theorem cw_X1_fitsBehind : CWv yX1_fitsBehind cX1_fitsBehind 3 (some .boolean) RX1 2 := ⟨m2_193, ms3_3, m1_4, m2_194, rfl, by decide, by decide, by decide +kernel⟩
set_option maxHeartbeats 4000000 in
set_option maxRecDepth 100000 in
theorem c_X1_fitsBehind (l : Launch) (D : va_G) (cI cJ : ClassId) (aL : Nat → Nat) (netOf_L : (Nat → Int32)) (left_L : (Nat → Int32)) (right_L : (Nat → Int32)) (trackOf_L : (Nat → Int32)) (touched_L : (Nat → Int32)) (below_L : (Nat → Int64)) (byLeft_L : (Nat → Int32)) (size_L : Int32) (tracks_L : Int32) (x1 : Int32) (x2 : Int32) (r : Int32) (h : f_X1_fitsBehind netOf_L left_L right_L x1 x2 = some r) : Cti l D cI cJ yX1_fitsBehind cX1_fitsBehind 3 (some .boolean) 0 0 [.ref (aL 0), .int x1, .int x2] (wL cI cJ aL netOf_L left_L right_L trackOf_L touched_L below_L byLeft_L size_L tracks_L) (wL cI cJ aL netOf_L left_L right_L trackOf_L touched_L below_L byLeft_L size_L tracks_L) r := by
  refine mk_z [(0, .ref (aL 0)), (1, .int x1), (2, .int x2)] (by decide) rfl (Nat.le_of_ble_eq_true rfl) rfl (fun p e s m args below meth c A Q C hk => ?_)
  unfold f_X1_fitsBehind at h
  refine v_iload_n C 1 dX1_fitsBehind_0 rfl rfl ?_
  refine v_iconst (v := (-1)) C dX1_fitsBehind_1 (by decide) ?_
  refine v_icmp_eq (tgt := 20) C dX1_fitsBehind_2 (by decide) h (fun h => ?_) (fun h => ?_)
  · refine v_iconst (v := 1) C dX1_fitsBehind_20 (by decide) ?_
    cases h
    exact hk _ _ dX1_fitsBehind_21 (Or.inr rfl)
  · refine v_aload_n C 0 dX1_fitsBehind_5 rfl rfl ?_
    refine v_get C 0 1 iuX1 rfl rfl (by decide) m1_70 rfl rfl dX1_fitsBehind_6 ?_
    refine v_iload_n C 2 dX1_fitsBehind_9 rfl rfl ?_
    refine v_iald C 2 rfl dX1_fitsBehind_10 h (fun h => ?_)
    refine v_aload_n C 0 dX1_fitsBehind_11 rfl rfl ?_
    refine v_get C 0 2 iuX1 rfl rfl (by decide) m1_72 rfl rfl dX1_fitsBehind_12 ?_
    refine v_iload_n C 1 dX1_fitsBehind_15 rfl rfl ?_
    refine v_iald C 3 rfl dX1_fitsBehind_16 h (fun h => ?_)
    refine v_icmp_le (tgt := 22) C dX1_fitsBehind_17 (by decide) h (fun h => ?_) (fun h => ?_)
    · refine v_aload_n C 0 dX1_fitsBehind_22 rfl rfl ?_
      refine v_get C 0 1 iuX1 rfl rfl (by decide) m1_70 rfl rfl dX1_fitsBehind_23 ?_
      refine v_iload_n C 2 dX1_fitsBehind_26 rfl rfl ?_
      refine v_iald C 2 rfl dX1_fitsBehind_27 h (fun h => ?_)
      refine v_aload_n C 0 dX1_fitsBehind_28 rfl rfl ?_
      refine v_get C 0 2 iuX1 rfl rfl (by decide) m1_72 rfl rfl dX1_fitsBehind_29 ?_
      refine v_iload_n C 1 dX1_fitsBehind_32 rfl rfl ?_
      refine v_iald C 3 rfl dX1_fitsBehind_33 h (fun h => ?_)
      refine v_icmp_ne (tgt := 56) C dX1_fitsBehind_34 (by decide) h (fun h => ?_) (fun h => ?_)
      · refine v_aload_n C 0 dX1_fitsBehind_37 rfl rfl ?_
        refine v_get C 0 0 iuX1 rfl rfl (by decide) m1_68 rfl rfl dX1_fitsBehind_38 ?_
        refine v_iload_n C 2 dX1_fitsBehind_41 rfl rfl ?_
        refine v_iald C 1 rfl dX1_fitsBehind_42 h (fun h => ?_)
        refine v_aload_n C 0 dX1_fitsBehind_43 rfl rfl ?_
        refine v_get C 0 0 iuX1 rfl rfl (by decide) m1_68 rfl rfl dX1_fitsBehind_44 ?_
        refine v_iload_n C 1 dX1_fitsBehind_47 rfl rfl ?_
        refine v_iald C 1 rfl dX1_fitsBehind_48 h (fun h => ?_)
        refine v_icmp_ne (tgt := 56) C dX1_fitsBehind_49 (by decide) h (fun h => ?_) (fun h => ?_)
        · refine v_iconst (v := 1) C dX1_fitsBehind_52 (by decide) ?_
          refine v_goto (tgt := 57) C dX1_fitsBehind_53 (by decide) ?_
          cases h
          exact hk _ _ dX1_fitsBehind_57 (Or.inr rfl)
        · refine v_iconst (v := 0) C dX1_fitsBehind_56 (by decide) ?_
          cases h
          exact hk _ _ dX1_fitsBehind_57 (Or.inl rfl)
      · refine v_iconst (v := 0) C dX1_fitsBehind_56 (by decide) ?_
        cases h
        exact hk _ _ dX1_fitsBehind_57 (Or.inl rfl)
    · refine v_iconst (v := 1) C dX1_fitsBehind_20 (by decide) ?_
      cases h
      exact hk _ _ dX1_fitsBehind_21 (Or.inr rfl)
def f_X1_fillTrack_B8 (x1 : Int64) (netOf_L : (Nat → Int32)) (left_L : (Nat → Int32)) (right_L : (Nat → Int32)) (byLeft_L : (Nat → Int32)) (size_L : Int32) (tracks_L : Int32) : (Int64 × Int32 × Int32 × (Nat → Int32)) → Option ((Int64 × Int32 × Int32 × (Nat → Int32)) ⊕ (Int64 × (Nat → Int32)))
  | (x3, x5, x6, trackOf_L) => if size_L ≤ x6 then (some (.inr (x3, trackOf_L))) else (bnd x6 38 ((f_X1_isIn x1 (byLeft_L x6.toNatClampNeg)).bind (fun r => match r with | r_1 => if r_1 = 0 then (some (.inl (x3, x5, x6 + 1, trackOf_L))) else ((f_X1_fitsBehind netOf_L left_L right_L x5 (byLeft_L x6.toNatClampNeg)).bind (fun r => match r with | r_2 => if r_2 = 0 then (some (.inl (x3, x5, x6 + 1, trackOf_L))) else (bnd (byLeft_L x6.toNatClampNeg) 38 (some (.inl ((x3 ||| ((1 : Int64) <<< ((byLeft_L x6.toNatClampNeg).toInt64 &&& 63)), byLeft_L x6.toNatClampNeg, x6 + 1, upd trackOf_L (byLeft_L x6.toNatClampNeg).toNatClampNeg tracks_L))))))))))
def f_X1_fillTrack (netOf_L : (Nat → Int32)) (left_L : (Nat → Int32)) (right_L : (Nat → Int32)) (trackOf_L : (Nat → Int32)) (byLeft_L : (Nat → Int32)) (size_L : Int32) (tracks_L : Int32) (x1 : Int64) : Option (Int64 × (Nat → Int32)) := (lp (f_X1_fillTrack_B8 x1 netOf_L left_L right_L byLeft_L size_L tracks_L) 64 ((0, (-1), 0, trackOf_L))).bind (fun r => match r with | (x3_3, trackOf_L_4) => some (x3_3, trackOf_L_4))
theorem cw_X1_fillTrack : CWv yX1_fillTrack cX1_fillTrack 8 (some .long) RX1 1 := ⟨m2_189, ms3_2, m1_4, m2_190, rfl, by decide, by decide, by decide +kernel⟩
set_option maxHeartbeats 4000000 in
set_option maxRecDepth 100000 in
theorem t_X1_fillTrack_B8 {p : Program} {l : Launch} {e : Env} {s : State} {m : MethodId} {args : Array Value} {below : List Frame} {meth : Method} {c : Code} {D : va_G} {A : Nat → Prop} {cI cJ : ClassId} {Q : State → Prop} (C : Cx p s m args c cX1_fillTrack 8 RX1 D A cI cJ) {aL : Nat → Nat} {x1 : Int64} {netOf_L : (Nat → Int32)} {left_L : (Nat → Int32)} {right_L : (Nat → Int32)} {touched_L : (Nat → Int32)} {below_L : (Nat → Int64)} {byLeft_L : (Nat → Int32)} {size_L : Int32} {tracks_L : Int32} (s8 : (Int64 × Int32 × Int32 × (Nat → Int32))) (o8 : (Int64 × Int32 × Int32 × (Nat → Int32)) ⊕ (Int64 × (Nat → Int32))) (h : f_X1_fillTrack_B8 x1 netOf_L left_L right_L byLeft_L size_L tracks_L s8 = some o8) (hl : ∀ s8, o8 = .inl s8 → V p l e (rmO 1 22) s m args below meth c 8 D A 0 0 Q 8 [(0, .ref (aL 0)), (1, .long x1), (3, .long s8.1), (5, .int s8.2.1), (6, .int s8.2.2.1)] [] (wL cI cJ aL netOf_L left_L right_L s8.2.2.2 touched_L below_L byLeft_L size_L tracks_L)) (hx : ∀ r8, o8 = .inr r8 → V p l e (rmO 1 22) s m args below meth c 8 D A 0 0 Q 74 [(3, .long r8.1)] [] (wL cI cJ aL netOf_L left_L right_L r8.2 touched_L below_L byLeft_L size_L tracks_L)) : V p l e (rmO 1 22) s m args below meth c 8 D A 0 0 Q 8 [(0, .ref (aL 0)), (1, .long x1), (3, .long s8.1), (5, .int s8.2.1), (6, .int s8.2.2.1)] [] (wL cI cJ aL netOf_L left_L right_L s8.2.2.2 touched_L below_L byLeft_L size_L tracks_L) := by
  obtain ⟨x3, x5, x6, trackOf_L⟩ := s8
  unfold f_X1_fillTrack_B8 at h
  show V p l e (rmO 1 22) s m args below meth c 8 D A 0 0 Q 8 [(0, .ref (aL 0)), (1, .long x1), (3, .long x3), (5, .int x5), (6, .int x6)] [] (wL cI cJ aL netOf_L left_L right_L trackOf_L touched_L below_L byLeft_L size_L tracks_L)
  refine v_iload C 4 dX1_fillTrack_8 rfl ?_
  refine v_aload_n C 0 dX1_fillTrack_10 rfl rfl ?_
  refine v_get C 0 7 iuX1 rfl rfl (by decide) m1_80 rfl rfl dX1_fillTrack_11 ?_
  refine v_icmp_ge (tgt := 74) C dX1_fillTrack_14 (by decide) h (fun h => ?_) (fun h => ?_)
  · refine v_perm [2] rfl ?_
    cases h
    exact hx _ rfl
  · refine v_aload_n C 0 dX1_fillTrack_17 rfl rfl ?_
    refine v_get C 0 6 iuX1 rfl rfl (by decide) m1_79 rfl rfl dX1_fillTrack_18 ?_
    refine v_iload C 4 dX1_fillTrack_21 rfl ?_
    refine v_iald C 7 rfl dX1_fillTrack_23 h (fun h => ?_)
    refine v_istore C [(7, .int (byLeft_L x6.toNatClampNeg)), (0, .ref (aL 0)), (1, .long x1), (3, .long x3), (5, .int x5), (6, .int x6)] dX1_fillTrack_24 (by decide) rfl ?_
    refine v_lload_n C 2 dX1_fillTrack_26 rfl rfl ?_
    refine v_iload C 0 dX1_fillTrack_27 rfl ?_
    obtain ⟨r, h1, h⟩ := bind_el h
    obtain ⟨r_1, rfl⟩ : ∃ z, z = r := ⟨_, rfl⟩
    try dsimp only at h
    refine v_callSi (As := [.long x1, .int (byLeft_L x6.toNatClampNeg)]) (st := []) (wr := [(aL 0, .inr (1, [.ref (aL 1), .ref (aL 2), .ref (aL 3), .ref (aL 4), .ref (aL 5), .ref (aL 6), .ref (aL 7), .int size_L, .int tracks_L])), (aL 1, .inl (cI, 38, .inl netOf_L)), (aL 2, .inl (cI, 38, .inl left_L)), (aL 3, .inl (cI, 38, .inl right_L)), (aL 4, .inl (cI, 38, .inl trackOf_L)), (aL 5, .inl (cI, 38, .inl touched_L)), (aL 6, .inl (cJ, 38, .inr (.inl below_L))), (aL 7, .inl (cI, 38, .inl byLeft_L))]) (w1 := []) (ws' := (wL cI cJ aL netOf_L left_L right_L trackOf_L touched_L below_L byLeft_L size_L tracks_L)) (isC := []) (isR := [0, 1, 2, 3, 4, 5, 6, 7]) (pm := [0, 1, 2, 3, 4, 5, 6, 7]) C (c_X1_isIn l D cI cJ x1 (byLeft_L x6.toNatClampNeg) r_1 h1) cw_X1_isIn m1_216 dX1_fillTrack_29 rfl ⟨Nat.le_of_ble_eq_true rfl, Nat.le_of_ble_eq_true rfl⟩ (Nat.le_of_ble_eq_true rfl) ⟨Nat.le_refl 0, Nat.le_refl 0⟩ ⟨rfl, rfl, rfl, rfl, by decide, rfl, rfl⟩ ?_
    refine v_if_eq (tgt := 68) C dX1_fillTrack_32 (by decide) h (fun h => ?_) (fun h => ?_)
    · refine v_iinc C [(6, .int (x6 + 1)), (7, .int (byLeft_L x6.toNatClampNeg)), (0, .ref (aL 0)), (1, .long x1), (3, .long x3), (5, .int x5)] 5 dX1_fillTrack_68 rfl rfl (by decide) rfl ?_
      refine v_goto (tgt := 8) C dX1_fillTrack_71 (by decide) ?_
      refine v_perm [2, 3, 4, 5, 0] rfl ?_
      cases h
      exact hl _ rfl
    · refine v_aload_n C 1 dX1_fillTrack_35 rfl rfl ?_
      refine v_iload C 4 dX1_fillTrack_36 rfl ?_
      refine v_iload C 0 dX1_fillTrack_38 rfl ?_
      obtain ⟨r, h1, h⟩ := bind_el h
      obtain ⟨r_2, rfl⟩ : ∃ z, z = r := ⟨_, rfl⟩
      try dsimp only at h
      refine v_callVi (As := [.int x5, .int (byLeft_L x6.toNatClampNeg)]) (st := []) (wr := []) (w1 := (wL cI cJ aL netOf_L left_L right_L trackOf_L touched_L below_L byLeft_L size_L tracks_L)) (ws' := (wL cI cJ aL netOf_L left_L right_L trackOf_L touched_L below_L byLeft_L size_L tracks_L)) (isC := [0, 1, 2, 3, 4, 5, 6, 7]) (isR := []) (pm := [0, 1, 2, 3, 4, 5, 6, 7]) C (c_X1_fitsBehind l D cI cJ aL netOf_L left_L right_L trackOf_L touched_L below_L byLeft_L size_L tracks_L x5 (byLeft_L x6.toNatClampNeg) r_2 h1) cw_X1_fitsBehind 0 rfl rfl m2_191 dX1_fillTrack_40 rfl ⟨Nat.le_of_ble_eq_true rfl, Nat.le_of_ble_eq_true rfl⟩ (Nat.le_of_ble_eq_true rfl) ⟨Nat.le_refl 0, Nat.le_refl 0⟩ ⟨rfl, rfl, rfl, rfl, by decide, rfl, rfl⟩ ?_
      refine v_if_eq (tgt := 68) C dX1_fillTrack_43 (by decide) h (fun h => ?_) (fun h => ?_)
      · refine v_iinc C [(6, .int (x6 + 1)), (7, .int (byLeft_L x6.toNatClampNeg)), (0, .ref (aL 0)), (1, .long x1), (3, .long x3), (5, .int x5)] 5 dX1_fillTrack_68 rfl rfl (by decide) rfl ?_
        refine v_goto (tgt := 8) C dX1_fillTrack_71 (by decide) ?_
        refine v_perm [2, 3, 4, 5, 0] rfl ?_
        cases h
        exact hl _ rfl
      · refine v_aload_n C 1 dX1_fillTrack_46 rfl rfl ?_
        refine v_get C 0 3 iuX1 rfl rfl (by decide) m1_74 rfl rfl dX1_fillTrack_47 ?_
        refine v_iload C 0 dX1_fillTrack_50 rfl ?_
        refine v_aload_n C 1 dX1_fillTrack_52 rfl rfl ?_
        refine v_get C 0 8 iuX1 rfl rfl (by decide) m1_83 rfl rfl dX1_fillTrack_53 ?_
        refine v_iast C (wL cI cJ aL netOf_L left_L right_L (upd trackOf_L (byLeft_L x6.toNatClampNeg).toNatClampNeg tracks_L) touched_L below_L byLeft_L size_L tracks_L) 4 rfl dX1_fillTrack_56 h rfl (fun h => ?_)
        refine v_lload_n C 3 dX1_fillTrack_57 rfl rfl ?_
        refine v_lconst (v := 1) C dX1_fillTrack_58 (by decide) ?_
        refine v_iload C 0 dX1_fillTrack_59 rfl ?_
        refine v_lshl C dX1_fillTrack_61 ?_
        refine v_lor C dX1_fillTrack_62 ?_
        refine v_lstore_n C [(3, .long (x3 ||| ((1 : Int64) <<< ((byLeft_L x6.toNatClampNeg).toInt64 &&& 63)))), (7, .int (byLeft_L x6.toNatClampNeg)), (0, .ref (aL 0)), (1, .long x1), (5, .int x5), (6, .int x6)] dX1_fillTrack_63 rfl (by decide) rfl ?_
        refine v_iload C 1 dX1_fillTrack_64 rfl ?_
        refine v_istore C [(5, .int (byLeft_L x6.toNatClampNeg)), (3, .long (x3 ||| ((1 : Int64) <<< ((byLeft_L x6.toNatClampNeg).toInt64 &&& 63)))), (7, .int (byLeft_L x6.toNatClampNeg)), (0, .ref (aL 0)), (1, .long x1), (6, .int x6)] dX1_fillTrack_66 (by decide) rfl ?_
        refine v_iinc C [(6, .int (x6 + 1)), (5, .int (byLeft_L x6.toNatClampNeg)), (3, .long (x3 ||| ((1 : Int64) <<< ((byLeft_L x6.toNatClampNeg).toInt64 &&& 63)))), (7, .int (byLeft_L x6.toNatClampNeg)), (0, .ref (aL 0)), (1, .long x1)] 5 dX1_fillTrack_68 rfl rfl (by decide) rfl ?_
        refine v_goto (tgt := 8) C dX1_fillTrack_71 (by decide) ?_
        refine v_perm [4, 5, 2, 1, 0] rfl ?_
        cases h
        exact hl _ rfl
set_option maxHeartbeats 4000000 in
set_option maxRecDepth 100000 in
theorem t_X1_fillTrack_L8 {p : Program} {l : Launch} {e : Env} {s : State} {m : MethodId} {args : Array Value} {below : List Frame} {meth : Method} {c : Code} {D : va_G} {A : Nat → Prop} {cI cJ : ClassId} {Q : State → Prop} (C : Cx p s m args c cX1_fillTrack 8 RX1 D A cI cJ) {aL : Nat → Nat} {x1 : Int64} {netOf_L : (Nat → Int32)} {left_L : (Nat → Int32)} {right_L : (Nat → Int32)} {touched_L : (Nat → Int32)} {below_L : (Nat → Int64)} {byLeft_L : (Nat → Int32)} {size_L : Int32} {tracks_L : Int32} {n8 : Nat} {s9 : (Int64 × Int32 × Int32 × (Nat → Int32))} {o8 : (Int64 × (Nat → Int32))} (h : lp (f_X1_fillTrack_B8 x1 netOf_L left_L right_L byLeft_L size_L tracks_L) n8 s9 = some o8) (hk : V p l e (rmO 1 22) s m args below meth c 8 D A 0 0 Q 74 [(3, .long o8.1)] [] (wL cI cJ aL netOf_L left_L right_L o8.2 touched_L below_L byLeft_L size_L tracks_L)) : V p l e (rmO 1 22) s m args below meth c 8 D A 0 0 Q 8 [(0, .ref (aL 0)), (1, .long x1), (3, .long s9.1), (5, .int s9.2.1), (6, .int s9.2.2.1)] [] (wL cI cJ aL netOf_L left_L right_L s9.2.2.2 touched_L below_L byLeft_L size_L tracks_L) := lp_ok (Pσ := fun s8 => V p l e (rmO 1 22) s m args below meth c 8 D A 0 0 Q 8 [(0, .ref (aL 0)), (1, .long x1), (3, .long s8.1), (5, .int s8.2.1), (6, .int s8.2.2.1)] [] (wL cI cJ aL netOf_L left_L right_L s8.2.2.2 touched_L below_L byLeft_L size_L tracks_L)) (Pρ := fun r8 => V p l e (rmO 1 22) s m args below meth c 8 D A 0 0 Q 74 [(3, .long r8.1)] [] (wL cI cJ aL netOf_L left_L right_L r8.2 touched_L below_L byLeft_L size_L tracks_L)) (fun s o h hl hx => t_X1_fillTrack_B8 C s o h hl hx) n8 s9 o8 h hk
set_option maxHeartbeats 4000000 in
set_option maxRecDepth 100000 in
theorem c_X1_fillTrack (l : Launch) (D : va_G) (cI cJ : ClassId) (aL : Nat → Nat) (netOf_L : (Nat → Int32)) (left_L : (Nat → Int32)) (right_L : (Nat → Int32)) (trackOf_L : (Nat → Int32)) (touched_L : (Nat → Int32)) (below_L : (Nat → Int64)) (byLeft_L : (Nat → Int32)) (size_L : Int32) (tracks_L : Int32) (x1 : Int64) (r : Int64) (trackOf_L' : (Nat → Int32)) (h : f_X1_fillTrack netOf_L left_L right_L trackOf_L byLeft_L size_L tracks_L x1 = some (r, trackOf_L')) : Ctl l D cI cJ yX1_fillTrack cX1_fillTrack 8 (some .long) 1 22 [.ref (aL 0), .long x1] (wL cI cJ aL netOf_L left_L right_L trackOf_L touched_L below_L byLeft_L size_L tracks_L) (wL cI cJ aL netOf_L left_L right_L trackOf_L' touched_L below_L byLeft_L size_L tracks_L) r := by
  refine mk_l [(0, .ref (aL 0)), (1, .long x1)] (by decide) rfl (Nat.le_of_ble_eq_true rfl) rfl (fun p e s m args below meth c A Q C hk => ?_)
  unfold f_X1_fillTrack at h
  refine v_lconst (v := 0) C dX1_fillTrack_0 (by decide) ?_
  refine v_lstore_n C [(3, .long 0), (0, .ref (aL 0)), (1, .long x1)] dX1_fillTrack_1 rfl (by decide) rfl ?_
  refine v_iconst (v := (-1)) C dX1_fillTrack_2 (by decide) ?_
  refine v_istore C [(5, .int (-1)), (3, .long 0), (0, .ref (aL 0)), (1, .long x1)] dX1_fillTrack_3 (by decide) rfl ?_
  refine v_iconst (v := 0) C dX1_fillTrack_5 (by decide) ?_
  refine v_istore C [(6, .int 0), (5, .int (-1)), (3, .long 0), (0, .ref (aL 0)), (1, .long x1)] dX1_fillTrack_6 (by decide) rfl ?_
  obtain ⟨r, h1, h⟩ := bind_el h
  refine v_perm [3, 4, 2, 1, 0] rfl ?_
  obtain ⟨x3_3, trackOf_L_4⟩ := r
  refine t_X1_fillTrack_L8 C (s9 := (0, (-1), 0, trackOf_L)) h1 ?_
  show V p l e (rmO 1 22) s m args below meth c 8 D A 0 0 Q 74 [(3, .long x3_3)] [] (wL cI cJ aL netOf_L left_L right_L trackOf_L_4 touched_L below_L byLeft_L size_L tracks_L)
  try dsimp only at h
  refine v_lload_n C 0 dX1_fillTrack_74 rfl rfl ?_
  cases h
  exact hk _ _ dX1_fillTrack_75
def f_X1_fillTracks_B18 (netOf_L : (Nat → Int32)) (left_L : (Nat → Int32)) (right_L : (Nat → Int32)) (below_L : (Nat → Int64)) (byLeft_L : (Nat → Int32)) (size_L : Int32) : (Int64 × (Nat → Int32) × Int32) → Option ((Int64 × (Nat → Int32) × Int32) ⊕ ((Nat → Int32) × Int32))
  | (x1, trackOf_L, tracks_L) => if (lg_cmp x1 0) = 0 then (some (.inr (trackOf_L, tracks_L))) else (if size_L ≤ tracks_L then (some (.inr (trackOf_L, tracks_L))) else ((f_X1_belowAnyOf below_L size_L x1).bind (fun r => match r with | r_2 => (f_X1_fillTrack netOf_L left_L right_L trackOf_L byLeft_L size_L tracks_L (x1 &&& (r_2 ^^^ (-1)))).bind (fun r => match r with | (r_3, trackOf_L_4) => some (.inl ((x1 &&& (r_3 ^^^ (-1)), trackOf_L_4, tracks_L + 1)))))))
def f_X1_fillTracks (netOf_L : (Nat → Int32)) (left_L : (Nat → Int32)) (right_L : (Nat → Int32)) (trackOf_L : (Nat → Int32)) (below_L : (Nat → Int64)) (byLeft_L : (Nat → Int32)) (size_L : Int32) : Option ((Nat → Int32) × (Nat → Int32) × Int32) := (f_X1_sortByLeft left_L byLeft_L size_L).bind (fun r => match r with | byLeft_L_1 => (lp (f_X1_fillTracks_B18 netOf_L left_L right_L below_L byLeft_L_1 size_L) 64 ((((1 : Int64) <<< (size_L.toInt64 &&& 63)) - 1, trackOf_L, 0))).bind (fun r => match r with | (trackOf_L_5, tracks_L_6) => some (trackOf_L_5, byLeft_L_1, tracks_L_6)))
theorem cw_X1_fillTracks : CWv yX1_fillTracks cX1_fillTracks 3 none RX1 0 := ⟨m2_176, ms2_15, m1_4, m2_177, rfl, by decide, by decide, by decide +kernel⟩
set_option maxHeartbeats 4000000 in
set_option maxRecDepth 100000 in
theorem t_X1_fillTracks_B18 {p : Program} {l : Launch} {e : Env} {s : State} {m : MethodId} {args : Array Value} {below : List Frame} {meth : Method} {c : Code} {D : va_G} {A : Nat → Prop} {cI cJ : ClassId} {Q : State → Prop} (C : Cx p s m args c cX1_fillTracks 3 RX1 D A cI cJ) {aL : Nat → Nat} {netOf_L : (Nat → Int32)} {left_L : (Nat → Int32)} {right_L : (Nat → Int32)} {touched_L : (Nat → Int32)} {below_L : (Nat → Int64)} {byLeft_L : (Nat → Int32)} {size_L : Int32} (s8 : (Int64 × (Nat → Int32) × Int32)) (o8 : (Int64 × (Nat → Int32) × Int32) ⊕ ((Nat → Int32) × Int32)) (h : f_X1_fillTracks_B18 netOf_L left_L right_L below_L byLeft_L size_L s8 = some o8) (hl : ∀ s8, o8 = .inl s8 → V p l e (rmO 2 49) s m args below meth c 3 D A 0 0 Q 18 [(0, .ref (aL 0)), (1, .long s8.1)] [] (wL cI cJ aL netOf_L left_L right_L s8.2.1 touched_L below_L byLeft_L size_L s8.2.2)) (hx : ∀ r8, o8 = .inr r8 → V p l e (rmO 2 49) s m args below meth c 3 D A 0 0 Q 70 [] [] (wL cI cJ aL netOf_L left_L right_L r8.1 touched_L below_L byLeft_L size_L r8.2)) : V p l e (rmO 2 49) s m args below meth c 3 D A 0 0 Q 18 [(0, .ref (aL 0)), (1, .long s8.1)] [] (wL cI cJ aL netOf_L left_L right_L s8.2.1 touched_L below_L byLeft_L size_L s8.2.2) := by
  obtain ⟨x1, trackOf_L, tracks_L⟩ := s8
  unfold f_X1_fillTracks_B18 at h
  show V p l e (rmO 2 49) s m args below meth c 3 D A 0 0 Q 18 [(0, .ref (aL 0)), (1, .long x1)] [] (wL cI cJ aL netOf_L left_L right_L trackOf_L touched_L below_L byLeft_L size_L tracks_L)
  refine v_lload_n C 1 dX1_fillTracks_18 rfl rfl ?_
  refine v_lconst (v := 0) C dX1_fillTracks_19 (by decide) ?_
  refine v_lcmp C dX1_fillTracks_20 ?_
  refine v_if_eq (tgt := 70) C dX1_fillTracks_21 (by decide) h (fun h => ?_) (fun h => ?_)
  · refine v_perm [] rfl ?_
    cases h
    exact hx _ rfl
  · refine v_aload_n C 0 dX1_fillTracks_24 rfl rfl ?_
    refine v_get C 0 8 iuX1 rfl rfl (by decide) m1_83 rfl rfl dX1_fillTracks_25 ?_
    refine v_aload_n C 0 dX1_fillTracks_28 rfl rfl ?_
    refine v_get C 0 7 iuX1 rfl rfl (by decide) m1_80 rfl rfl dX1_fillTracks_29 ?_
    refine v_icmp_ge (tgt := 70) C dX1_fillTracks_32 (by decide) h (fun h => ?_) (fun h => ?_)
    · refine v_perm [] rfl ?_
      cases h
      exact hx _ rfl
    · refine v_lload_n C 1 dX1_fillTracks_35 rfl rfl ?_
      refine v_aload_n C 0 dX1_fillTracks_36 rfl rfl ?_
      refine v_lload_n C 1 dX1_fillTracks_37 rfl rfl ?_
      refine v_aload_n C 0 dX1_fillTracks_38 rfl rfl ?_
      refine v_lload_n C 1 dX1_fillTracks_39 rfl rfl ?_
      obtain ⟨r, h1, h⟩ := bind_el h
      obtain ⟨r_2, rfl⟩ : ∃ z, z = r := ⟨_, rfl⟩
      try dsimp only at h
      refine v_callVl (As := [.long x1]) (st := [.long x1, .ref (aL 0), .long x1]) (wr := []) (w1 := (wL cI cJ aL netOf_L left_L right_L trackOf_L touched_L below_L byLeft_L size_L tracks_L)) (ws' := (wL cI cJ aL netOf_L left_L right_L trackOf_L touched_L below_L byLeft_L size_L tracks_L)) (isC := [0, 1, 2, 3, 4, 5, 6, 7]) (isR := []) (pm := [0, 1, 2, 3, 4, 5, 6, 7]) C (c_X1_belowAnyOf l D cI cJ aL netOf_L left_L right_L trackOf_L touched_L below_L byLeft_L size_L tracks_L x1 r_2 h1) cw_X1_belowAnyOf 0 rfl rfl m2_182 dX1_fillTracks_40 rfl ⟨Nat.le_of_ble_eq_true rfl, Nat.le_of_ble_eq_true rfl⟩ (Nat.le_of_ble_eq_true rfl) ⟨Nat.le_refl 0, Nat.le_refl 0⟩ ⟨rfl, rfl, rfl, rfl, by decide, rfl, rfl⟩ ?_
      refine v_ldc2 (v := (-1)) C m2_186 dX1_fillTracks_43 ?_
      refine v_lxor C dX1_fillTracks_46 ?_
      refine v_land C dX1_fillTracks_47 ?_
      obtain ⟨r, h1, h⟩ := bind_el h
      obtain ⟨r_3, trackOf_L_4⟩ := r
      try dsimp only at h
      refine v_callVl (As := [.long (x1 &&& (r_2 ^^^ (-1)))]) (st := [.long x1]) (wr := []) (w1 := (wL cI cJ aL netOf_L left_L right_L trackOf_L_4 touched_L below_L byLeft_L size_L tracks_L)) (ws' := (wL cI cJ aL netOf_L left_L right_L trackOf_L_4 touched_L below_L byLeft_L size_L tracks_L)) (isC := [0, 1, 2, 3, 4, 5, 6, 7]) (isR := []) (pm := [0, 1, 2, 3, 4, 5, 6, 7]) C (c_X1_fillTrack l D cI cJ aL netOf_L left_L right_L trackOf_L touched_L below_L byLeft_L size_L tracks_L (x1 &&& (r_2 ^^^ (-1))) r_3 trackOf_L_4 h1) cw_X1_fillTrack 0 rfl rfl m2_187 dX1_fillTracks_48 rfl ⟨Nat.le_of_ble_eq_true rfl, Nat.le_of_ble_eq_true rfl⟩ (Nat.le_of_ble_eq_true rfl) ⟨Nat.le_refl 0, Nat.le_refl 0⟩ ⟨rfl, rfl, rfl, rfl, by decide, rfl, rfl⟩ ?_
      refine v_ldc2 (v := (-1)) C m2_186 dX1_fillTracks_51 ?_
      refine v_lxor C dX1_fillTracks_54 ?_
      refine v_land C dX1_fillTracks_55 ?_
      refine v_lstore_n C [(1, .long (x1 &&& (r_3 ^^^ (-1)))), (0, .ref (aL 0))] dX1_fillTracks_56 rfl (by decide) rfl ?_
      refine v_aload_n C 1 dX1_fillTracks_57 rfl rfl ?_
      refine v_dup C dX1_fillTracks_58 rfl ?_
      refine v_get C 0 8 iuX1 rfl rfl (by decide) m1_83 rfl rfl dX1_fillTracks_59 ?_
      refine v_iconst (v := 1) C dX1_fillTracks_62 (by decide) ?_
      refine v_iadd C dX1_fillTracks_63 ?_
      refine v_put C (wL cI cJ aL netOf_L left_L right_L trackOf_L_4 touched_L below_L byLeft_L size_L (tracks_L + 1)) 0 8 iuX1 tyX1_ok nmX1 rfl rfl (by decide) m1_83 rfl rfl rfl rfl rfl (Nat.le_of_ble_eq_true rfl) dX1_fillTracks_64 rfl ?_
      refine v_goto (tgt := 18) C dX1_fillTracks_67 (by decide) ?_
      refine v_perm [1, 0] rfl ?_
      cases h
      exact hl _ rfl
set_option maxHeartbeats 4000000 in
set_option maxRecDepth 100000 in
theorem t_X1_fillTracks_L18 {p : Program} {l : Launch} {e : Env} {s : State} {m : MethodId} {args : Array Value} {below : List Frame} {meth : Method} {c : Code} {D : va_G} {A : Nat → Prop} {cI cJ : ClassId} {Q : State → Prop} (C : Cx p s m args c cX1_fillTracks 3 RX1 D A cI cJ) {aL : Nat → Nat} {netOf_L : (Nat → Int32)} {left_L : (Nat → Int32)} {right_L : (Nat → Int32)} {touched_L : (Nat → Int32)} {below_L : (Nat → Int64)} {byLeft_L : (Nat → Int32)} {size_L : Int32} {n8 : Nat} {s9 : (Int64 × (Nat → Int32) × Int32)} {o8 : ((Nat → Int32) × Int32)} (h : lp (f_X1_fillTracks_B18 netOf_L left_L right_L below_L byLeft_L size_L) n8 s9 = some o8) (hk : V p l e (rmO 2 49) s m args below meth c 3 D A 0 0 Q 70 [] [] (wL cI cJ aL netOf_L left_L right_L o8.1 touched_L below_L byLeft_L size_L o8.2)) : V p l e (rmO 2 49) s m args below meth c 3 D A 0 0 Q 18 [(0, .ref (aL 0)), (1, .long s9.1)] [] (wL cI cJ aL netOf_L left_L right_L s9.2.1 touched_L below_L byLeft_L size_L s9.2.2) := lp_ok (Pσ := fun s8 => V p l e (rmO 2 49) s m args below meth c 3 D A 0 0 Q 18 [(0, .ref (aL 0)), (1, .long s8.1)] [] (wL cI cJ aL netOf_L left_L right_L s8.2.1 touched_L below_L byLeft_L size_L s8.2.2)) (Pρ := fun r8 => V p l e (rmO 2 49) s m args below meth c 3 D A 0 0 Q 70 [] [] (wL cI cJ aL netOf_L left_L right_L r8.1 touched_L below_L byLeft_L size_L r8.2)) (fun s o h hl hx => t_X1_fillTracks_B18 C s o h hl hx) n8 s9 o8 h hk
set_option maxHeartbeats 4000000 in
set_option maxRecDepth 100000 in
theorem c_X1_fillTracks (l : Launch) (D : va_G) (cI cJ : ClassId) (aL : Nat → Nat) (netOf_L : (Nat → Int32)) (left_L : (Nat → Int32)) (right_L : (Nat → Int32)) (trackOf_L : (Nat → Int32)) (touched_L : (Nat → Int32)) (below_L : (Nat → Int64)) (byLeft_L : (Nat → Int32)) (size_L : Int32) (tracks_L : Int32) (trackOf_L' : (Nat → Int32)) (byLeft_L' : (Nat → Int32)) (tracks_L' : Int32) (h : f_X1_fillTracks netOf_L left_L right_L trackOf_L below_L byLeft_L size_L = some (trackOf_L', byLeft_L', tracks_L')) : Ctv l D cI cJ yX1_fillTracks cX1_fillTracks 3 none 2 49 [.ref (aL 0)] (wL cI cJ aL netOf_L left_L right_L trackOf_L touched_L below_L byLeft_L size_L tracks_L) (wL cI cJ aL netOf_L left_L right_L trackOf_L' touched_L below_L byLeft_L' size_L tracks_L') := by
  refine mk_v [(0, .ref (aL 0))] (by decide) rfl (Nat.le_of_ble_eq_true rfl) rfl (fun p e s m args below meth c A Q C hk => ?_)
  unfold f_X1_fillTracks at h
  refine v_aload_n C 0 dX1_fillTracks_0 rfl rfl ?_
  obtain ⟨r, h1, h⟩ := bind_el h
  obtain ⟨byLeft_L_1, rfl⟩ : ∃ z, z = r := ⟨_, rfl⟩
  try dsimp only at h
  refine v_callVv (As := []) (st := []) (wr := []) (w1 := (wL cI cJ aL netOf_L left_L right_L trackOf_L touched_L below_L byLeft_L_1 size_L tracks_L)) (ws' := (wL cI cJ aL netOf_L left_L right_L trackOf_L touched_L below_L byLeft_L_1 size_L tracks_L)) (isC := [0, 1, 2, 3, 4, 5, 6, 7]) (isR := []) (pm := [0, 1, 2, 3, 4, 5, 6, 7]) C (c_X1_sortByLeft l D cI cJ aL netOf_L left_L right_L trackOf_L touched_L below_L byLeft_L size_L tracks_L byLeft_L_1 h1) cw_X1_sortByLeft 0 rfl rfl m2_178 dX1_fillTracks_1 rfl ⟨Nat.le_of_ble_eq_true rfl, Nat.le_of_ble_eq_true rfl⟩ (Nat.le_of_ble_eq_true rfl) ⟨Nat.le_refl 0, Nat.le_refl 0⟩ ⟨rfl, rfl, rfl, rfl, by decide, rfl, rfl⟩ ?_
  refine v_lconst (v := 1) C dX1_fillTracks_4 (by decide) ?_
  refine v_aload_n C 0 dX1_fillTracks_5 rfl rfl ?_
  refine v_get C 0 7 iuX1 rfl rfl (by decide) m1_80 rfl rfl dX1_fillTracks_6 ?_
  refine v_lshl C dX1_fillTracks_9 ?_
  refine v_lconst (v := 1) C dX1_fillTracks_10 (by decide) ?_
  refine v_lsub C dX1_fillTracks_11 ?_
  refine v_lstore_n C [(1, .long (((1 : Int64) <<< (size_L.toInt64 &&& 63)) - 1)), (0, .ref (aL 0))] dX1_fillTracks_12 rfl (by decide) rfl ?_
  refine v_aload_n C 1 dX1_fillTracks_13 rfl rfl ?_
  refine v_iconst (v := 0) C dX1_fillTracks_14 (by decide) ?_
  refine v_put C (wL cI cJ aL netOf_L left_L right_L trackOf_L touched_L below_L byLeft_L_1 size_L 0) 0 8 iuX1 tyX1_ok nmX1 rfl rfl (by decide) m1_83 rfl rfl rfl rfl rfl (Nat.le_of_ble_eq_true rfl) dX1_fillTracks_15 rfl ?_
  obtain ⟨r, h1, h⟩ := bind_el h
  refine v_perm [1, 0] rfl ?_
  obtain ⟨trackOf_L_5, tracks_L_6⟩ := r
  refine t_X1_fillTracks_L18 C (s9 := (((1 : Int64) <<< (size_L.toInt64 &&& 63)) - 1, trackOf_L, 0)) h1 ?_
  show V p l e (rmO 2 49) s m args below meth c 3 D A 0 0 Q 70 [] [] (wL cI cJ aL netOf_L left_L right_L trackOf_L_5 touched_L below_L byLeft_L_1 size_L tracks_L_6)
  try dsimp only at h
  cases h
  exact hk _ _ dX1_fillTracks_70
def f_X1_netOn_B2 (x1 : Int32) (x2 : Int32) (left_L : (Nat → Int32)) (right_L : (Nat → Int32)) (trackOf_L : (Nat → Int32)) (size_L : Int32) : Int32 → Option (Int32 ⊕ (Unit ⊕ Int32))
  | x3 => if size_L ≤ x3 then (some (.inr (.inl ()))) else (bnd x3 38 (if (trackOf_L x3.toNatClampNeg) = x1 then (bnd x3 38 (if x2 < (left_L x3.toNatClampNeg) then (some (.inl (x3 + 1))) else (bnd x3 38 (if (right_L x3.toNatClampNeg) < x2 then (some (.inl (x3 + 1))) else (some (.inr (.inr x3))))))) else (some (.inl (x3 + 1)))))
def f_X1_netOn (netOf_L : (Nat → Int32)) (left_L : (Nat → Int32)) (right_L : (Nat → Int32)) (trackOf_L : (Nat → Int32)) (size_L : Int32) (x1 : Int32) (x2 : Int32) : Option Int32 := (lp (f_X1_netOn_B2 x1 x2 left_L right_L trackOf_L size_L) 64 0).bind (fun r => match r with | .inl _ => some 0 | .inr x3_1 => bnd x3_1 38 (some (netOf_L x3_1.toNatClampNeg)))
theorem cw_X1_netOn : CWv yX1_netOn cX1_netOn 4 (some .int) RX1 2 := ⟨m1_239, ms2_3, m1_4, m2_0, rfl, by decide, by decide, by decide +kernel⟩
set_option maxHeartbeats 4000000 in
set_option maxRecDepth 100000 in
theorem t_X1_netOn_B2 {p : Program} {l : Launch} {e : Env} {s : State} {m : MethodId} {args : Array Value} {below : List Frame} {meth : Method} {c : Code} {D : va_G} {A : Nat → Prop} {cI cJ : ClassId} {Q : State → Prop} (C : Cx p s m args c cX1_netOn 4 RX1 D A cI cJ) {aL : Nat → Nat} {x1 : Int32} {x2 : Int32} {netOf_L : (Nat → Int32)} {left_L : (Nat → Int32)} {right_L : (Nat → Int32)} {trackOf_L : (Nat → Int32)} {touched_L : (Nat → Int32)} {below_L : (Nat → Int64)} {byLeft_L : (Nat → Int32)} {size_L : Int32} {tracks_L : Int32} (s8 : Int32) (o8 : Int32 ⊕ (Unit ⊕ Int32)) (h : f_X1_netOn_B2 x1 x2 left_L right_L trackOf_L size_L s8 = some o8) (hl : ∀ s8, o8 = .inl s8 → V p l e (rmO 0 0) s m args below meth c 4 D A 0 0 Q 2 [(0, .ref (aL 0)), (1, .int x1), (2, .int x2), (3, .int s8)] [] (wL cI cJ aL netOf_L left_L right_L trackOf_L touched_L below_L byLeft_L size_L tracks_L)) (hx0 : ∀ r8, o8 = .inr (.inl r8) → V p l e (rmO 0 0) s m args below meth c 4 D A 0 0 Q 53 [] [] (wL cI cJ aL netOf_L left_L right_L trackOf_L touched_L below_L byLeft_L size_L tracks_L)) (hx1 : ∀ r8, o8 = .inr (.inr r8) → V p l e (rmO 0 0) s m args below meth c 4 D A 0 0 Q 40 [(0, .ref (aL 0)), (3, .int r8)] [] (wL cI cJ aL netOf_L left_L right_L trackOf_L touched_L below_L byLeft_L size_L tracks_L)) : V p l e (rmO 0 0) s m args below meth c 4 D A 0 0 Q 2 [(0, .ref (aL 0)), (1, .int x1), (2, .int x2), (3, .int s8)] [] (wL cI cJ aL netOf_L left_L right_L trackOf_L touched_L below_L byLeft_L size_L tracks_L) := by
  obtain ⟨x3, rfl⟩ : ∃ z, z = s8 := ⟨_, rfl⟩
  unfold f_X1_netOn_B2 at h
  show V p l e (rmO 0 0) s m args below meth c 4 D A 0 0 Q 2 [(0, .ref (aL 0)), (1, .int x1), (2, .int x2), (3, .int x3)] [] (wL cI cJ aL netOf_L left_L right_L trackOf_L touched_L below_L byLeft_L size_L tracks_L)
  refine v_iload_n C 3 dX1_netOn_2 rfl rfl ?_
  refine v_aload_n C 0 dX1_netOn_3 rfl rfl ?_
  refine v_get C 0 7 iuX1 rfl rfl (by decide) m1_80 rfl rfl dX1_netOn_4 ?_
  refine v_icmp_ge (tgt := 53) C dX1_netOn_7 (by decide) h (fun h => ?_) (fun h => ?_)
  · refine v_perm [] rfl ?_
    cases h
    exact hx0 _ rfl
  · refine v_aload_n C 0 dX1_netOn_10 rfl rfl ?_
    refine v_get C 0 3 iuX1 rfl rfl (by decide) m1_74 rfl rfl dX1_netOn_11 ?_
    refine v_iload_n C 3 dX1_netOn_14 rfl rfl ?_
    refine v_iald C 4 rfl dX1_netOn_15 h (fun h => ?_)
    refine v_iload_n C 1 dX1_netOn_16 rfl rfl ?_
    refine v_icmp_ne (tgt := 47) C dX1_netOn_17 (by decide) h (fun h => ?_) (fun h => ?_)
    · refine v_aload_n C 0 dX1_netOn_20 rfl rfl ?_
      refine v_get C 0 1 iuX1 rfl rfl (by decide) m1_70 rfl rfl dX1_netOn_21 ?_
      refine v_iload_n C 3 dX1_netOn_24 rfl rfl ?_
      refine v_iald C 2 rfl dX1_netOn_25 h (fun h => ?_)
      refine v_iload_n C 2 dX1_netOn_26 rfl rfl ?_
      refine v_icmp_gt (tgt := 47) C dX1_netOn_27 (by decide) h (fun h => ?_) (fun h => ?_)
      · refine v_iinc C [(3, .int (x3 + 1)), (0, .ref (aL 0)), (1, .int x1), (2, .int x2)] 3 dX1_netOn_47 rfl rfl (by decide) rfl ?_
        refine v_goto (tgt := 2) C dX1_netOn_50 (by decide) ?_
        refine v_perm [1, 2, 3, 0] rfl ?_
        cases h
        exact hl _ rfl
      · refine v_iload_n C 2 dX1_netOn_30 rfl rfl ?_
        refine v_aload_n C 0 dX1_netOn_31 rfl rfl ?_
        refine v_get C 0 2 iuX1 rfl rfl (by decide) m1_72 rfl rfl dX1_netOn_32 ?_
        refine v_iload_n C 3 dX1_netOn_35 rfl rfl ?_
        refine v_iald C 3 rfl dX1_netOn_36 h (fun h => ?_)
        refine v_icmp_gt (tgt := 47) C dX1_netOn_37 (by decide) h (fun h => ?_) (fun h => ?_)
        · refine v_iinc C [(3, .int (x3 + 1)), (0, .ref (aL 0)), (1, .int x1), (2, .int x2)] 3 dX1_netOn_47 rfl rfl (by decide) rfl ?_
          refine v_goto (tgt := 2) C dX1_netOn_50 (by decide) ?_
          refine v_perm [1, 2, 3, 0] rfl ?_
          cases h
          exact hl _ rfl
        · refine v_perm [0, 3] rfl ?_
          cases h
          exact hx1 _ rfl
    · refine v_iinc C [(3, .int (x3 + 1)), (0, .ref (aL 0)), (1, .int x1), (2, .int x2)] 3 dX1_netOn_47 rfl rfl (by decide) rfl ?_
      refine v_goto (tgt := 2) C dX1_netOn_50 (by decide) ?_
      refine v_perm [1, 2, 3, 0] rfl ?_
      cases h
      exact hl _ rfl
set_option maxHeartbeats 4000000 in
set_option maxRecDepth 100000 in
theorem t_X1_netOn_L2 {p : Program} {l : Launch} {e : Env} {s : State} {m : MethodId} {args : Array Value} {below : List Frame} {meth : Method} {c : Code} {D : va_G} {A : Nat → Prop} {cI cJ : ClassId} {Q : State → Prop} (C : Cx p s m args c cX1_netOn 4 RX1 D A cI cJ) {aL : Nat → Nat} {x1 : Int32} {x2 : Int32} {netOf_L : (Nat → Int32)} {left_L : (Nat → Int32)} {right_L : (Nat → Int32)} {trackOf_L : (Nat → Int32)} {touched_L : (Nat → Int32)} {below_L : (Nat → Int64)} {byLeft_L : (Nat → Int32)} {size_L : Int32} {tracks_L : Int32} {n8 : Nat} {s9 : Int32} {o8 : (Unit ⊕ Int32)} (h : lp (f_X1_netOn_B2 x1 x2 left_L right_L trackOf_L size_L) n8 s9 = some o8) (hk : (Sum.elim (fun r8 => V p l e (rmO 0 0) s m args below meth c 4 D A 0 0 Q 53 [] [] (wL cI cJ aL netOf_L left_L right_L trackOf_L touched_L below_L byLeft_L size_L tracks_L)) (fun r8 => V p l e (rmO 0 0) s m args below meth c 4 D A 0 0 Q 40 [(0, .ref (aL 0)), (3, .int r8)] [] (wL cI cJ aL netOf_L left_L right_L trackOf_L touched_L below_L byLeft_L size_L tracks_L))) o8) : V p l e (rmO 0 0) s m args below meth c 4 D A 0 0 Q 2 [(0, .ref (aL 0)), (1, .int x1), (2, .int x2), (3, .int s9)] [] (wL cI cJ aL netOf_L left_L right_L trackOf_L touched_L below_L byLeft_L size_L tracks_L) := lp_ok (Pσ := fun s8 => V p l e (rmO 0 0) s m args below meth c 4 D A 0 0 Q 2 [(0, .ref (aL 0)), (1, .int x1), (2, .int x2), (3, .int s8)] [] (wL cI cJ aL netOf_L left_L right_L trackOf_L touched_L below_L byLeft_L size_L tracks_L)) (Pρ := Sum.elim (fun r8 => V p l e (rmO 0 0) s m args below meth c 4 D A 0 0 Q 53 [] [] (wL cI cJ aL netOf_L left_L right_L trackOf_L touched_L below_L byLeft_L size_L tracks_L)) (fun r8 => V p l e (rmO 0 0) s m args below meth c 4 D A 0 0 Q 40 [(0, .ref (aL 0)), (3, .int r8)] [] (wL cI cJ aL netOf_L left_L right_L trackOf_L touched_L below_L byLeft_L size_L tracks_L))) (fun s o h hl hx => t_X1_netOn_B2 C s o h hl (fun r e => hx _ e) (fun r e => hx _ e)) n8 s9 o8 h hk
set_option maxHeartbeats 4000000 in
set_option maxRecDepth 100000 in
theorem c_X1_netOn (l : Launch) (D : va_G) (cI cJ : ClassId) (aL : Nat → Nat) (netOf_L : (Nat → Int32)) (left_L : (Nat → Int32)) (right_L : (Nat → Int32)) (trackOf_L : (Nat → Int32)) (touched_L : (Nat → Int32)) (below_L : (Nat → Int64)) (byLeft_L : (Nat → Int32)) (size_L : Int32) (tracks_L : Int32) (x1 : Int32) (x2 : Int32) (r : Int32) (h : f_X1_netOn netOf_L left_L right_L trackOf_L size_L x1 x2 = some r) : Cti l D cI cJ yX1_netOn cX1_netOn 4 (some .int) 0 0 [.ref (aL 0), .int x1, .int x2] (wL cI cJ aL netOf_L left_L right_L trackOf_L touched_L below_L byLeft_L size_L tracks_L) (wL cI cJ aL netOf_L left_L right_L trackOf_L touched_L below_L byLeft_L size_L tracks_L) r := by
  refine mk_i [(0, .ref (aL 0)), (1, .int x1), (2, .int x2)] (by decide) rfl (Nat.le_of_ble_eq_true rfl) rfl (fun p e s m args below meth c A Q C hk => ?_)
  unfold f_X1_netOn at h
  refine v_iconst (v := 0) C dX1_netOn_0 (by decide) ?_
  refine v_istore_n C [(3, .int 0), (0, .ref (aL 0)), (1, .int x1), (2, .int x2)] dX1_netOn_1 rfl (by decide) rfl ?_
  obtain ⟨r, h1, h⟩ := bind_el h
  refine v_perm [1, 2, 3, 0] rfl ?_
  rcases r with _ | ⟨x3_1⟩
  · refine t_X1_netOn_L2 C (s9 := 0) h1 ?_
    show V p l e (rmO 0 0) s m args below meth c 4 D A 0 0 Q 53 [] [] (wL cI cJ aL netOf_L left_L right_L trackOf_L touched_L below_L byLeft_L size_L tracks_L)
    try dsimp only at h
    refine v_iconst (v := 0) C dX1_netOn_53 (by decide) ?_
    cases h
    exact hk _ _ dX1_netOn_54
  · refine t_X1_netOn_L2 C (s9 := 0) h1 ?_
    show V p l e (rmO 0 0) s m args below meth c 4 D A 0 0 Q 40 [(0, .ref (aL 0)), (3, .int x3_1)] [] (wL cI cJ aL netOf_L left_L right_L trackOf_L touched_L below_L byLeft_L size_L tracks_L)
    try dsimp only at h
    refine v_aload_n C 0 dX1_netOn_40 rfl rfl ?_
    refine v_get C 0 0 iuX1 rfl rfl (by decide) m1_68 rfl rfl dX1_netOn_41 ?_
    refine v_iload_n C 1 dX1_netOn_44 rfl rfl ?_
    refine v_iald C 1 rfl dX1_netOn_45 h (fun h => ?_)
    cases h
    exact hk _ _ dX1_netOn_46
def f_X1_touchesOn_B3 (x1 : Int32) (x2 : Int32) (x3 : Int32) (netOf_L : (Nat → Int32)) (trackOf_L : (Nat → Int32)) (touched_L : (Nat → Int32)) (size_L : Int32) : Int32 → Option (Int32 ⊕ (Unit ⊕ Unit))
  | x4 => if size_L ≤ x4 then (some (.inr (.inl ()))) else (bnd x4 38 (if (trackOf_L x4.toNatClampNeg) = x1 then ((f_X1_touches netOf_L touched_L x4 x2 x3).bind (fun r => match r with | r_1 => if r_1 = 0 then (some (.inl (x4 + 1))) else (some (.inr (.inr ()))))) else (some (.inl (x4 + 1)))))
def f_X1_touchesOn (netOf_L : (Nat → Int32)) (trackOf_L : (Nat → Int32)) (touched_L : (Nat → Int32)) (size_L : Int32) (x1 : Int32) (x2 : Int32) (x3 : Int32) : Option Int32 := (lp (f_X1_touchesOn_B3 x1 x2 x3 netOf_L trackOf_L touched_L size_L) 64 0).bind (fun r => match r with | .inl _ => some 0 | .inr _ => some 1)
theorem cw_X1_touchesOn : CWv yX1_touchesOn cX1_touchesOn 5 (some .boolean) RX1 3 := ⟨m3_22, ms3_9, m1_4, m3_23, rfl, by decide, by decide, by decide +kernel⟩
set_option maxHeartbeats 4000000 in
set_option maxRecDepth 100000 in
theorem t_X1_touchesOn_B3 {p : Program} {l : Launch} {e : Env} {s : State} {m : MethodId} {args : Array Value} {below : List Frame} {meth : Method} {c : Code} {D : va_G} {A : Nat → Prop} {cI cJ : ClassId} {Q : State → Prop} (C : Cx p s m args c cX1_touchesOn 5 RX1 D A cI cJ) {aL : Nat → Nat} {x1 : Int32} {x2 : Int32} {x3 : Int32} {netOf_L : (Nat → Int32)} {left_L : (Nat → Int32)} {right_L : (Nat → Int32)} {trackOf_L : (Nat → Int32)} {touched_L : (Nat → Int32)} {below_L : (Nat → Int64)} {byLeft_L : (Nat → Int32)} {size_L : Int32} {tracks_L : Int32} (s8 : Int32) (o8 : Int32 ⊕ (Unit ⊕ Unit)) (h : f_X1_touchesOn_B3 x1 x2 x3 netOf_L trackOf_L touched_L size_L s8 = some o8) (hl : ∀ s8, o8 = .inl s8 → V p l e (rmO 1 23) s m args below meth c 5 D A 0 0 Q 3 [(0, .ref (aL 0)), (1, .int x1), (2, .int x2), (3, .int x3), (4, .int s8)] [] (wL cI cJ aL netOf_L left_L right_L trackOf_L touched_L below_L byLeft_L size_L tracks_L)) (hx0 : ∀ r8, o8 = .inr (.inl r8) → V p l e (rmO 1 23) s m args below meth c 5 D A 0 0 Q 42 [] [] (wL cI cJ aL netOf_L left_L right_L trackOf_L touched_L below_L byLeft_L size_L tracks_L)) (hx1 : ∀ r8, o8 = .inr (.inr r8) → V p l e (rmO 1 23) s m args below meth c 5 D A 0 0 Q 34 [] [] (wL cI cJ aL netOf_L left_L right_L trackOf_L touched_L below_L byLeft_L size_L tracks_L)) : V p l e (rmO 1 23) s m args below meth c 5 D A 0 0 Q 3 [(0, .ref (aL 0)), (1, .int x1), (2, .int x2), (3, .int x3), (4, .int s8)] [] (wL cI cJ aL netOf_L left_L right_L trackOf_L touched_L below_L byLeft_L size_L tracks_L) := by
  obtain ⟨x4, rfl⟩ : ∃ z, z = s8 := ⟨_, rfl⟩
  unfold f_X1_touchesOn_B3 at h
  show V p l e (rmO 1 23) s m args below meth c 5 D A 0 0 Q 3 [(0, .ref (aL 0)), (1, .int x1), (2, .int x2), (3, .int x3), (4, .int x4)] [] (wL cI cJ aL netOf_L left_L right_L trackOf_L touched_L below_L byLeft_L size_L tracks_L)
  refine v_iload C 4 dX1_touchesOn_3 rfl ?_
  refine v_aload_n C 0 dX1_touchesOn_5 rfl rfl ?_
  refine v_get C 0 7 iuX1 rfl rfl (by decide) m1_80 rfl rfl dX1_touchesOn_6 ?_
  refine v_icmp_ge (tgt := 42) C dX1_touchesOn_9 (by decide) h (fun h => ?_) (fun h => ?_)
  · refine v_perm [] rfl ?_
    cases h
    exact hx0 _ rfl
  · refine v_aload_n C 0 dX1_touchesOn_12 rfl rfl ?_
    refine v_get C 0 3 iuX1 rfl rfl (by decide) m1_74 rfl rfl dX1_touchesOn_13 ?_
    refine v_iload C 4 dX1_touchesOn_16 rfl ?_
    refine v_iald C 4 rfl dX1_touchesOn_18 h (fun h => ?_)
    refine v_iload_n C 1 dX1_touchesOn_19 rfl rfl ?_
    refine v_icmp_ne (tgt := 36) C dX1_touchesOn_20 (by decide) h (fun h => ?_) (fun h => ?_)
    · refine v_aload_n C 0 dX1_touchesOn_23 rfl rfl ?_
      refine v_iload C 4 dX1_touchesOn_24 rfl ?_
      refine v_iload_n C 2 dX1_touchesOn_26 rfl rfl ?_
      refine v_iload_n C 3 dX1_touchesOn_27 rfl rfl ?_
      obtain ⟨r, h1, h⟩ := bind_el h
      obtain ⟨r_1, rfl⟩ : ∃ z, z = r := ⟨_, rfl⟩
      try dsimp only at h
      refine v_callVi (As := [.int x4, .int x2, .int x3]) (st := []) (wr := []) (w1 := (wL cI cJ aL netOf_L left_L right_L trackOf_L touched_L below_L byLeft_L size_L tracks_L)) (ws' := (wL cI cJ aL netOf_L left_L right_L trackOf_L touched_L below_L byLeft_L size_L tracks_L)) (isC := [0, 1, 2, 3, 4, 5, 6, 7]) (isR := []) (pm := [0, 1, 2, 3, 4, 5, 6, 7]) C (c_X1_touches l D cI cJ aL netOf_L left_L right_L trackOf_L touched_L below_L byLeft_L size_L tracks_L x4 x2 x3 r_1 h1) cw_X1_touches 0 rfl rfl m1_208 dX1_touchesOn_28 rfl ⟨Nat.le_of_ble_eq_true rfl, Nat.le_of_ble_eq_true rfl⟩ (Nat.le_of_ble_eq_true rfl) ⟨Nat.le_refl 0, Nat.le_refl 0⟩ ⟨rfl, rfl, rfl, rfl, by decide, rfl, rfl⟩ ?_
      refine v_if_eq (tgt := 36) C dX1_touchesOn_31 (by decide) h (fun h => ?_) (fun h => ?_)
      · refine v_iinc C [(4, .int (x4 + 1)), (0, .ref (aL 0)), (1, .int x1), (2, .int x2), (3, .int x3)] 4 dX1_touchesOn_36 rfl rfl (by decide) rfl ?_
        refine v_goto (tgt := 3) C dX1_touchesOn_39 (by decide) ?_
        refine v_perm [1, 2, 3, 4, 0] rfl ?_
        cases h
        exact hl _ rfl
      · refine v_perm [] rfl ?_
        cases h
        exact hx1 _ rfl
    · refine v_iinc C [(4, .int (x4 + 1)), (0, .ref (aL 0)), (1, .int x1), (2, .int x2), (3, .int x3)] 4 dX1_touchesOn_36 rfl rfl (by decide) rfl ?_
      refine v_goto (tgt := 3) C dX1_touchesOn_39 (by decide) ?_
      refine v_perm [1, 2, 3, 4, 0] rfl ?_
      cases h
      exact hl _ rfl
set_option maxHeartbeats 4000000 in
set_option maxRecDepth 100000 in
theorem t_X1_touchesOn_L3 {p : Program} {l : Launch} {e : Env} {s : State} {m : MethodId} {args : Array Value} {below : List Frame} {meth : Method} {c : Code} {D : va_G} {A : Nat → Prop} {cI cJ : ClassId} {Q : State → Prop} (C : Cx p s m args c cX1_touchesOn 5 RX1 D A cI cJ) {aL : Nat → Nat} {x1 : Int32} {x2 : Int32} {x3 : Int32} {netOf_L : (Nat → Int32)} {left_L : (Nat → Int32)} {right_L : (Nat → Int32)} {trackOf_L : (Nat → Int32)} {touched_L : (Nat → Int32)} {below_L : (Nat → Int64)} {byLeft_L : (Nat → Int32)} {size_L : Int32} {tracks_L : Int32} {n8 : Nat} {s9 : Int32} {o8 : (Unit ⊕ Unit)} (h : lp (f_X1_touchesOn_B3 x1 x2 x3 netOf_L trackOf_L touched_L size_L) n8 s9 = some o8) (hk : (Sum.elim (fun r8 => V p l e (rmO 1 23) s m args below meth c 5 D A 0 0 Q 42 [] [] (wL cI cJ aL netOf_L left_L right_L trackOf_L touched_L below_L byLeft_L size_L tracks_L)) (fun r8 => V p l e (rmO 1 23) s m args below meth c 5 D A 0 0 Q 34 [] [] (wL cI cJ aL netOf_L left_L right_L trackOf_L touched_L below_L byLeft_L size_L tracks_L))) o8) : V p l e (rmO 1 23) s m args below meth c 5 D A 0 0 Q 3 [(0, .ref (aL 0)), (1, .int x1), (2, .int x2), (3, .int x3), (4, .int s9)] [] (wL cI cJ aL netOf_L left_L right_L trackOf_L touched_L below_L byLeft_L size_L tracks_L) := lp_ok (Pσ := fun s8 => V p l e (rmO 1 23) s m args below meth c 5 D A 0 0 Q 3 [(0, .ref (aL 0)), (1, .int x1), (2, .int x2), (3, .int x3), (4, .int s8)] [] (wL cI cJ aL netOf_L left_L right_L trackOf_L touched_L below_L byLeft_L size_L tracks_L)) (Pρ := Sum.elim (fun r8 => V p l e (rmO 1 23) s m args below meth c 5 D A 0 0 Q 42 [] [] (wL cI cJ aL netOf_L left_L right_L trackOf_L touched_L below_L byLeft_L size_L tracks_L)) (fun r8 => V p l e (rmO 1 23) s m args below meth c 5 D A 0 0 Q 34 [] [] (wL cI cJ aL netOf_L left_L right_L trackOf_L touched_L below_L byLeft_L size_L tracks_L))) (fun s o h hl hx => t_X1_touchesOn_B3 C s o h hl (fun r e => hx _ e) (fun r e => hx _ e)) n8 s9 o8 h hk
set_option maxHeartbeats 4000000 in
set_option maxRecDepth 100000 in
theorem c_X1_touchesOn (l : Launch) (D : va_G) (cI cJ : ClassId) (aL : Nat → Nat) (netOf_L : (Nat → Int32)) (left_L : (Nat → Int32)) (right_L : (Nat → Int32)) (trackOf_L : (Nat → Int32)) (touched_L : (Nat → Int32)) (below_L : (Nat → Int64)) (byLeft_L : (Nat → Int32)) (size_L : Int32) (tracks_L : Int32) (x1 : Int32) (x2 : Int32) (x3 : Int32) (r : Int32) (h : f_X1_touchesOn netOf_L trackOf_L touched_L size_L x1 x2 x3 = some r) : Cti l D cI cJ yX1_touchesOn cX1_touchesOn 5 (some .boolean) 1 23 [.ref (aL 0), .int x1, .int x2, .int x3] (wL cI cJ aL netOf_L left_L right_L trackOf_L touched_L below_L byLeft_L size_L tracks_L) (wL cI cJ aL netOf_L left_L right_L trackOf_L touched_L below_L byLeft_L size_L tracks_L) r := by
  refine mk_z [(0, .ref (aL 0)), (1, .int x1), (2, .int x2), (3, .int x3)] (by decide) rfl (Nat.le_of_ble_eq_true rfl) rfl (fun p e s m args below meth c A Q C hk => ?_)
  unfold f_X1_touchesOn at h
  refine v_iconst (v := 0) C dX1_touchesOn_0 (by decide) ?_
  refine v_istore C [(4, .int 0), (0, .ref (aL 0)), (1, .int x1), (2, .int x2), (3, .int x3)] dX1_touchesOn_1 (by decide) rfl ?_
  obtain ⟨r, h1, h⟩ := bind_el h
  refine v_perm [1, 2, 3, 4, 0] rfl ?_
  rcases r with _ | _
  · refine t_X1_touchesOn_L3 C (s9 := 0) h1 ?_
    show V p l e (rmO 1 23) s m args below meth c 5 D A 0 0 Q 42 [] [] (wL cI cJ aL netOf_L left_L right_L trackOf_L touched_L below_L byLeft_L size_L tracks_L)
    try dsimp only at h
    refine v_iconst (v := 0) C dX1_touchesOn_42 (by decide) ?_
    cases h
    exact hk _ _ dX1_touchesOn_43 (Or.inl rfl)
  · refine t_X1_touchesOn_L3 C (s9 := 0) h1 ?_
    show V p l e (rmO 1 23) s m args below meth c 5 D A 0 0 Q 34 [] [] (wL cI cJ aL netOf_L left_L right_L trackOf_L touched_L below_L byLeft_L size_L tracks_L)
    try dsimp only at h
    refine v_iconst (v := 1) C dX1_touchesOn_34 (by decide) ?_
    cases h
    exact hk _ _ dX1_touchesOn_35 (Or.inr rfl)
def f_X1_greatestTrack_B5 (x1 : Int32) (x2 : Int32) (netOf_L : (Nat → Int32)) (trackOf_L : (Nat → Int32)) (touched_L : (Nat → Int32)) (size_L : Int32) : (Int32 × Int32) → Option ((Int32 × Int32) ⊕ Int32)
  | (x3, x4) => if size_L ≤ x4 then (some (.inr x3)) else ((f_X1_touches netOf_L touched_L x4 x2 x1).bind (fun r => match r with | r_1 => if r_1 = 0 then (some (.inl (x3, x4 + 1))) else (bnd x4 38 (some (.inl ((if x3 < (trackOf_L x4.toNatClampNeg) then (trackOf_L x4.toNatClampNeg) else x3, x4 + 1)))))))
def f_X1_greatestTrack (netOf_L : (Nat → Int32)) (trackOf_L : (Nat → Int32)) (touched_L : (Nat → Int32)) (size_L : Int32) (x1 : Int32) (x2 : Int32) : Option Int32 := (lp (f_X1_greatestTrack_B5 x1 x2 netOf_L trackOf_L touched_L size_L) 64 (((-1), 0))).bind (fun r => match r with | x3_2 => some x3_2)
theorem cw_X1_greatestTrack : CWv yX1_greatestTrack cX1_greatestTrack 5 (some .int) RX1 2 := ⟨m2_239, ms3_6, m1_4, m3_0, rfl, by decide, by decide, by decide +kernel⟩
set_option maxHeartbeats 4000000 in
set_option maxRecDepth 100000 in
theorem t_X1_greatestTrack_B5 {p : Program} {l : Launch} {e : Env} {s : State} {m : MethodId} {args : Array Value} {below : List Frame} {meth : Method} {c : Code} {D : va_G} {A : Nat → Prop} {cI cJ : ClassId} {Q : State → Prop} (C : Cx p s m args c cX1_greatestTrack 5 RX1 D A cI cJ) {aL : Nat → Nat} {x1 : Int32} {x2 : Int32} {netOf_L : (Nat → Int32)} {left_L : (Nat → Int32)} {right_L : (Nat → Int32)} {trackOf_L : (Nat → Int32)} {touched_L : (Nat → Int32)} {below_L : (Nat → Int64)} {byLeft_L : (Nat → Int32)} {size_L : Int32} {tracks_L : Int32} (s8 : (Int32 × Int32)) (o8 : (Int32 × Int32) ⊕ Int32) (h : f_X1_greatestTrack_B5 x1 x2 netOf_L trackOf_L touched_L size_L s8 = some o8) (hl : ∀ s8, o8 = .inl s8 → V p l e (rmO 1 23) s m args below meth c 5 D A 0 0 Q 5 [(0, .ref (aL 0)), (1, .int x1), (2, .int x2), (3, .int s8.1), (4, .int s8.2)] [] (wL cI cJ aL netOf_L left_L right_L trackOf_L touched_L below_L byLeft_L size_L tracks_L)) (hx : ∀ r8, o8 = .inr r8 → V p l e (rmO 1 23) s m args below meth c 5 D A 0 0 Q 43 [(3, .int r8)] [] (wL cI cJ aL netOf_L left_L right_L trackOf_L touched_L below_L byLeft_L size_L tracks_L)) : V p l e (rmO 1 23) s m args below meth c 5 D A 0 0 Q 5 [(0, .ref (aL 0)), (1, .int x1), (2, .int x2), (3, .int s8.1), (4, .int s8.2)] [] (wL cI cJ aL netOf_L left_L right_L trackOf_L touched_L below_L byLeft_L size_L tracks_L) := by
  obtain ⟨x3, x4⟩ := s8
  unfold f_X1_greatestTrack_B5 at h
  show V p l e (rmO 1 23) s m args below meth c 5 D A 0 0 Q 5 [(0, .ref (aL 0)), (1, .int x1), (2, .int x2), (3, .int x3), (4, .int x4)] [] (wL cI cJ aL netOf_L left_L right_L trackOf_L touched_L below_L byLeft_L size_L tracks_L)
  refine v_iload C 4 dX1_greatestTrack_5 rfl ?_
  refine v_aload_n C 0 dX1_greatestTrack_7 rfl rfl ?_
  refine v_get C 0 7 iuX1 rfl rfl (by decide) m1_80 rfl rfl dX1_greatestTrack_8 ?_
  refine v_icmp_ge (tgt := 43) C dX1_greatestTrack_11 (by decide) h (fun h => ?_) (fun h => ?_)
  · refine v_perm [3] rfl ?_
    cases h
    exact hx _ rfl
  · refine v_aload_n C 0 dX1_greatestTrack_14 rfl rfl ?_
    refine v_iload C 4 dX1_greatestTrack_15 rfl ?_
    refine v_iload_n C 2 dX1_greatestTrack_17 rfl rfl ?_
    refine v_iload_n C 1 dX1_greatestTrack_18 rfl rfl ?_
    obtain ⟨r, h1, h⟩ := bind_el h
    obtain ⟨r_1, rfl⟩ : ∃ z, z = r := ⟨_, rfl⟩
    try dsimp only at h
    refine v_callVi (As := [.int x4, .int x2, .int x1]) (st := []) (wr := []) (w1 := (wL cI cJ aL netOf_L left_L right_L trackOf_L touched_L below_L byLeft_L size_L tracks_L)) (ws' := (wL cI cJ aL netOf_L left_L right_L trackOf_L touched_L below_L byLeft_L size_L tracks_L)) (isC := [0, 1, 2, 3, 4, 5, 6, 7]) (isR := []) (pm := [0, 1, 2, 3, 4, 5, 6, 7]) C (c_X1_touches l D cI cJ aL netOf_L left_L right_L trackOf_L touched_L below_L byLeft_L size_L tracks_L x4 x2 x1 r_1 h1) cw_X1_touches 0 rfl rfl m1_208 dX1_greatestTrack_19 rfl ⟨Nat.le_of_ble_eq_true rfl, Nat.le_of_ble_eq_true rfl⟩ (Nat.le_of_ble_eq_true rfl) ⟨Nat.le_refl 0, Nat.le_refl 0⟩ ⟨rfl, rfl, rfl, rfl, by decide, rfl, rfl⟩ ?_
    refine v_if_eq (tgt := 37) C dX1_greatestTrack_22 (by decide) h (fun h => ?_) (fun h => ?_)
    · refine v_iinc C [(4, .int (x4 + 1)), (0, .ref (aL 0)), (1, .int x1), (2, .int x2), (3, .int x3)] 4 dX1_greatestTrack_37 rfl rfl (by decide) rfl ?_
      refine v_goto (tgt := 5) C dX1_greatestTrack_40 (by decide) ?_
      refine v_perm [1, 2, 3, 4, 0] rfl ?_
      cases h
      exact hl _ rfl
    · refine v_iload_n C 3 dX1_greatestTrack_25 rfl rfl ?_
      refine v_aload_n C 0 dX1_greatestTrack_26 rfl rfl ?_
      refine v_get C 0 3 iuX1 rfl rfl (by decide) m1_74 rfl rfl dX1_greatestTrack_27 ?_
      refine v_iload C 4 dX1_greatestTrack_30 rfl ?_
      refine v_iald C 4 rfl dX1_greatestTrack_32 h (fun h => ?_)
      refine v_mmax C m3_1 dX1_greatestTrack_33 (Nat.le_of_ble_eq_true rfl) (Nat.le_of_ble_eq_true rfl) ⟨Nat.le_refl 0, Nat.le_refl 0⟩ ?_
      refine v_istore_n C [(3, .int (if x3 < (trackOf_L x4.toNatClampNeg) then (trackOf_L x4.toNatClampNeg) else x3)), (0, .ref (aL 0)), (1, .int x1), (2, .int x2), (4, .int x4)] dX1_greatestTrack_36 rfl (by decide) rfl ?_
      refine v_iinc C [(4, .int (x4 + 1)), (3, .int (if x3 < (trackOf_L x4.toNatClampNeg) then (trackOf_L x4.toNatClampNeg) else x3)), (0, .ref (aL 0)), (1, .int x1), (2, .int x2)] 4 dX1_greatestTrack_37 rfl rfl (by decide) rfl ?_
      refine v_goto (tgt := 5) C dX1_greatestTrack_40 (by decide) ?_
      refine v_perm [2, 3, 4, 1, 0] rfl ?_
      cases h
      exact hl _ rfl
set_option maxHeartbeats 4000000 in
set_option maxRecDepth 100000 in
theorem t_X1_greatestTrack_L5 {p : Program} {l : Launch} {e : Env} {s : State} {m : MethodId} {args : Array Value} {below : List Frame} {meth : Method} {c : Code} {D : va_G} {A : Nat → Prop} {cI cJ : ClassId} {Q : State → Prop} (C : Cx p s m args c cX1_greatestTrack 5 RX1 D A cI cJ) {aL : Nat → Nat} {x1 : Int32} {x2 : Int32} {netOf_L : (Nat → Int32)} {left_L : (Nat → Int32)} {right_L : (Nat → Int32)} {trackOf_L : (Nat → Int32)} {touched_L : (Nat → Int32)} {below_L : (Nat → Int64)} {byLeft_L : (Nat → Int32)} {size_L : Int32} {tracks_L : Int32} {n8 : Nat} {s9 : (Int32 × Int32)} {o8 : Int32} (h : lp (f_X1_greatestTrack_B5 x1 x2 netOf_L trackOf_L touched_L size_L) n8 s9 = some o8) (hk : V p l e (rmO 1 23) s m args below meth c 5 D A 0 0 Q 43 [(3, .int o8)] [] (wL cI cJ aL netOf_L left_L right_L trackOf_L touched_L below_L byLeft_L size_L tracks_L)) : V p l e (rmO 1 23) s m args below meth c 5 D A 0 0 Q 5 [(0, .ref (aL 0)), (1, .int x1), (2, .int x2), (3, .int s9.1), (4, .int s9.2)] [] (wL cI cJ aL netOf_L left_L right_L trackOf_L touched_L below_L byLeft_L size_L tracks_L) := lp_ok (Pσ := fun s8 => V p l e (rmO 1 23) s m args below meth c 5 D A 0 0 Q 5 [(0, .ref (aL 0)), (1, .int x1), (2, .int x2), (3, .int s8.1), (4, .int s8.2)] [] (wL cI cJ aL netOf_L left_L right_L trackOf_L touched_L below_L byLeft_L size_L tracks_L)) (Pρ := fun r8 => V p l e (rmO 1 23) s m args below meth c 5 D A 0 0 Q 43 [(3, .int r8)] [] (wL cI cJ aL netOf_L left_L right_L trackOf_L touched_L below_L byLeft_L size_L tracks_L)) (fun s o h hl hx => t_X1_greatestTrack_B5 C s o h hl hx) n8 s9 o8 h hk
set_option maxHeartbeats 4000000 in
set_option maxRecDepth 100000 in
theorem c_X1_greatestTrack (l : Launch) (D : va_G) (cI cJ : ClassId) (aL : Nat → Nat) (netOf_L : (Nat → Int32)) (left_L : (Nat → Int32)) (right_L : (Nat → Int32)) (trackOf_L : (Nat → Int32)) (touched_L : (Nat → Int32)) (below_L : (Nat → Int64)) (byLeft_L : (Nat → Int32)) (size_L : Int32) (tracks_L : Int32) (x1 : Int32) (x2 : Int32) (r : Int32) (h : f_X1_greatestTrack netOf_L trackOf_L touched_L size_L x1 x2 = some r) : Cti l D cI cJ yX1_greatestTrack cX1_greatestTrack 5 (some .int) 1 23 [.ref (aL 0), .int x1, .int x2] (wL cI cJ aL netOf_L left_L right_L trackOf_L touched_L below_L byLeft_L size_L tracks_L) (wL cI cJ aL netOf_L left_L right_L trackOf_L touched_L below_L byLeft_L size_L tracks_L) r := by
  refine mk_i [(0, .ref (aL 0)), (1, .int x1), (2, .int x2)] (by decide) rfl (Nat.le_of_ble_eq_true rfl) rfl (fun p e s m args below meth c A Q C hk => ?_)
  unfold f_X1_greatestTrack at h
  refine v_iconst (v := (-1)) C dX1_greatestTrack_0 (by decide) ?_
  refine v_istore_n C [(3, .int (-1)), (0, .ref (aL 0)), (1, .int x1), (2, .int x2)] dX1_greatestTrack_1 rfl (by decide) rfl ?_
  refine v_iconst (v := 0) C dX1_greatestTrack_2 (by decide) ?_
  refine v_istore C [(4, .int 0), (3, .int (-1)), (0, .ref (aL 0)), (1, .int x1), (2, .int x2)] dX1_greatestTrack_3 (by decide) rfl ?_
  obtain ⟨r, h1, h⟩ := bind_el h
  refine v_perm [2, 3, 4, 1, 0] rfl ?_
  obtain ⟨x3_2, rfl⟩ : ∃ z, z = r := ⟨_, rfl⟩
  refine t_X1_greatestTrack_L5 C (s9 := ((-1), 0)) h1 ?_
  show V p l e (rmO 1 23) s m args below meth c 5 D A 0 0 Q 43 [(3, .int x3_2)] [] (wL cI cJ aL netOf_L left_L right_L trackOf_L touched_L below_L byLeft_L size_L tracks_L)
  try dsimp only at h
  refine v_iload_n C 0 dX1_greatestTrack_43 rfl rfl ?_
  cases h
  exact hk _ _ dX1_greatestTrack_44
def f_X1_leastTrack_B8 (x1 : Int32) (x2 : Int32) (netOf_L : (Nat → Int32)) (trackOf_L : (Nat → Int32)) (touched_L : (Nat → Int32)) (size_L : Int32) : (Int32 × Int32) → Option ((Int32 × Int32) ⊕ Int32)
  | (x3, x4) => if size_L ≤ x4 then (some (.inr x3)) else ((f_X1_touches netOf_L touched_L x4 x2 x1).bind (fun r => match r with | r_1 => if r_1 = 0 then (some (.inl (x3, x4 + 1))) else (bnd x4 38 (some (.inl ((if (trackOf_L x4.toNatClampNeg) < x3 then (trackOf_L x4.toNatClampNeg) else x3, x4 + 1)))))))
def f_X1_leastTrack (netOf_L : (Nat → Int32)) (trackOf_L : (Nat → Int32)) (touched_L : (Nat → Int32)) (size_L : Int32) (tracks_L : Int32) (x1 : Int32) (x2 : Int32) : Option Int32 := (lp (f_X1_leastTrack_B8 x1 x2 netOf_L trackOf_L touched_L size_L) 64 (tracks_L, 0)).bind (fun r => match r with | x3_2 => some x3_2)
theorem cw_X1_leastTrack : CWv yX1_leastTrack cX1_leastTrack 5 (some .int) RX1 2 := ⟨m3_4, ms3_7, m1_4, m3_5, rfl, by decide, by decide, by decide +kernel⟩
set_option maxHeartbeats 4000000 in
set_option maxRecDepth 100000 in
theorem t_X1_leastTrack_B8 {p : Program} {l : Launch} {e : Env} {s : State} {m : MethodId} {args : Array Value} {below : List Frame} {meth : Method} {c : Code} {D : va_G} {A : Nat → Prop} {cI cJ : ClassId} {Q : State → Prop} (C : Cx p s m args c cX1_leastTrack 5 RX1 D A cI cJ) {aL : Nat → Nat} {x1 : Int32} {x2 : Int32} {netOf_L : (Nat → Int32)} {left_L : (Nat → Int32)} {right_L : (Nat → Int32)} {trackOf_L : (Nat → Int32)} {touched_L : (Nat → Int32)} {below_L : (Nat → Int64)} {byLeft_L : (Nat → Int32)} {size_L : Int32} {tracks_L : Int32} (s8 : (Int32 × Int32)) (o8 : (Int32 × Int32) ⊕ Int32) (h : f_X1_leastTrack_B8 x1 x2 netOf_L trackOf_L touched_L size_L s8 = some o8) (hl : ∀ s8, o8 = .inl s8 → V p l e (rmO 1 23) s m args below meth c 5 D A 0 0 Q 8 [(0, .ref (aL 0)), (1, .int x1), (2, .int x2), (3, .int s8.1), (4, .int s8.2)] [] (wL cI cJ aL netOf_L left_L right_L trackOf_L touched_L below_L byLeft_L size_L tracks_L)) (hx : ∀ r8, o8 = .inr r8 → V p l e (rmO 1 23) s m args below meth c 5 D A 0 0 Q 46 [(3, .int r8)] [] (wL cI cJ aL netOf_L left_L right_L trackOf_L touched_L below_L byLeft_L size_L tracks_L)) : V p l e (rmO 1 23) s m args below meth c 5 D A 0 0 Q 8 [(0, .ref (aL 0)), (1, .int x1), (2, .int x2), (3, .int s8.1), (4, .int s8.2)] [] (wL cI cJ aL netOf_L left_L right_L trackOf_L touched_L below_L byLeft_L size_L tracks_L) := by
  obtain ⟨x3, x4⟩ := s8
  unfold f_X1_leastTrack_B8 at h
  show V p l e (rmO 1 23) s m args below meth c 5 D A 0 0 Q 8 [(0, .ref (aL 0)), (1, .int x1), (2, .int x2), (3, .int x3), (4, .int x4)] [] (wL cI cJ aL netOf_L left_L right_L trackOf_L touched_L below_L byLeft_L size_L tracks_L)
  refine v_iload C 4 dX1_leastTrack_8 rfl ?_
  refine v_aload_n C 0 dX1_leastTrack_10 rfl rfl ?_
  refine v_get C 0 7 iuX1 rfl rfl (by decide) m1_80 rfl rfl dX1_leastTrack_11 ?_
  refine v_icmp_ge (tgt := 46) C dX1_leastTrack_14 (by decide) h (fun h => ?_) (fun h => ?_)
  · refine v_perm [3] rfl ?_
    cases h
    exact hx _ rfl
  · refine v_aload_n C 0 dX1_leastTrack_17 rfl rfl ?_
    refine v_iload C 4 dX1_leastTrack_18 rfl ?_
    refine v_iload_n C 2 dX1_leastTrack_20 rfl rfl ?_
    refine v_iload_n C 1 dX1_leastTrack_21 rfl rfl ?_
    obtain ⟨r, h1, h⟩ := bind_el h
    obtain ⟨r_1, rfl⟩ : ∃ z, z = r := ⟨_, rfl⟩
    try dsimp only at h
    refine v_callVi (As := [.int x4, .int x2, .int x1]) (st := []) (wr := []) (w1 := (wL cI cJ aL netOf_L left_L right_L trackOf_L touched_L below_L byLeft_L size_L tracks_L)) (ws' := (wL cI cJ aL netOf_L left_L right_L trackOf_L touched_L below_L byLeft_L size_L tracks_L)) (isC := [0, 1, 2, 3, 4, 5, 6, 7]) (isR := []) (pm := [0, 1, 2, 3, 4, 5, 6, 7]) C (c_X1_touches l D cI cJ aL netOf_L left_L right_L trackOf_L touched_L below_L byLeft_L size_L tracks_L x4 x2 x1 r_1 h1) cw_X1_touches 0 rfl rfl m1_208 dX1_leastTrack_22 rfl ⟨Nat.le_of_ble_eq_true rfl, Nat.le_of_ble_eq_true rfl⟩ (Nat.le_of_ble_eq_true rfl) ⟨Nat.le_refl 0, Nat.le_refl 0⟩ ⟨rfl, rfl, rfl, rfl, by decide, rfl, rfl⟩ ?_
    refine v_if_eq (tgt := 40) C dX1_leastTrack_25 (by decide) h (fun h => ?_) (fun h => ?_)
    · refine v_iinc C [(4, .int (x4 + 1)), (0, .ref (aL 0)), (1, .int x1), (2, .int x2), (3, .int x3)] 4 dX1_leastTrack_40 rfl rfl (by decide) rfl ?_
      refine v_goto (tgt := 8) C dX1_leastTrack_43 (by decide) ?_
      refine v_perm [1, 2, 3, 4, 0] rfl ?_
      cases h
      exact hl _ rfl
    · refine v_iload_n C 3 dX1_leastTrack_28 rfl rfl ?_
      refine v_aload_n C 0 dX1_leastTrack_29 rfl rfl ?_
      refine v_get C 0 3 iuX1 rfl rfl (by decide) m1_74 rfl rfl dX1_leastTrack_30 ?_
      refine v_iload C 4 dX1_leastTrack_33 rfl ?_
      refine v_iald C 4 rfl dX1_leastTrack_35 h (fun h => ?_)
      refine v_mmin C m3_6 dX1_leastTrack_36 (Nat.le_of_ble_eq_true rfl) (Nat.le_of_ble_eq_true rfl) ⟨Nat.le_refl 0, Nat.le_refl 0⟩ ?_
      refine v_istore_n C [(3, .int (if (trackOf_L x4.toNatClampNeg) < x3 then (trackOf_L x4.toNatClampNeg) else x3)), (0, .ref (aL 0)), (1, .int x1), (2, .int x2), (4, .int x4)] dX1_leastTrack_39 rfl (by decide) rfl ?_
      refine v_iinc C [(4, .int (x4 + 1)), (3, .int (if (trackOf_L x4.toNatClampNeg) < x3 then (trackOf_L x4.toNatClampNeg) else x3)), (0, .ref (aL 0)), (1, .int x1), (2, .int x2)] 4 dX1_leastTrack_40 rfl rfl (by decide) rfl ?_
      refine v_goto (tgt := 8) C dX1_leastTrack_43 (by decide) ?_
      refine v_perm [2, 3, 4, 1, 0] rfl ?_
      cases h
      exact hl _ rfl
set_option maxHeartbeats 4000000 in
set_option maxRecDepth 100000 in
theorem t_X1_leastTrack_L8 {p : Program} {l : Launch} {e : Env} {s : State} {m : MethodId} {args : Array Value} {below : List Frame} {meth : Method} {c : Code} {D : va_G} {A : Nat → Prop} {cI cJ : ClassId} {Q : State → Prop} (C : Cx p s m args c cX1_leastTrack 5 RX1 D A cI cJ) {aL : Nat → Nat} {x1 : Int32} {x2 : Int32} {netOf_L : (Nat → Int32)} {left_L : (Nat → Int32)} {right_L : (Nat → Int32)} {trackOf_L : (Nat → Int32)} {touched_L : (Nat → Int32)} {below_L : (Nat → Int64)} {byLeft_L : (Nat → Int32)} {size_L : Int32} {tracks_L : Int32} {n8 : Nat} {s9 : (Int32 × Int32)} {o8 : Int32} (h : lp (f_X1_leastTrack_B8 x1 x2 netOf_L trackOf_L touched_L size_L) n8 s9 = some o8) (hk : V p l e (rmO 1 23) s m args below meth c 5 D A 0 0 Q 46 [(3, .int o8)] [] (wL cI cJ aL netOf_L left_L right_L trackOf_L touched_L below_L byLeft_L size_L tracks_L)) : V p l e (rmO 1 23) s m args below meth c 5 D A 0 0 Q 8 [(0, .ref (aL 0)), (1, .int x1), (2, .int x2), (3, .int s9.1), (4, .int s9.2)] [] (wL cI cJ aL netOf_L left_L right_L trackOf_L touched_L below_L byLeft_L size_L tracks_L) := lp_ok (Pσ := fun s8 => V p l e (rmO 1 23) s m args below meth c 5 D A 0 0 Q 8 [(0, .ref (aL 0)), (1, .int x1), (2, .int x2), (3, .int s8.1), (4, .int s8.2)] [] (wL cI cJ aL netOf_L left_L right_L trackOf_L touched_L below_L byLeft_L size_L tracks_L)) (Pρ := fun r8 => V p l e (rmO 1 23) s m args below meth c 5 D A 0 0 Q 46 [(3, .int r8)] [] (wL cI cJ aL netOf_L left_L right_L trackOf_L touched_L below_L byLeft_L size_L tracks_L)) (fun s o h hl hx => t_X1_leastTrack_B8 C s o h hl hx) n8 s9 o8 h hk
set_option maxHeartbeats 4000000 in
set_option maxRecDepth 100000 in
theorem c_X1_leastTrack (l : Launch) (D : va_G) (cI cJ : ClassId) (aL : Nat → Nat) (netOf_L : (Nat → Int32)) (left_L : (Nat → Int32)) (right_L : (Nat → Int32)) (trackOf_L : (Nat → Int32)) (touched_L : (Nat → Int32)) (below_L : (Nat → Int64)) (byLeft_L : (Nat → Int32)) (size_L : Int32) (tracks_L : Int32) (x1 : Int32) (x2 : Int32) (r : Int32) (h : f_X1_leastTrack netOf_L trackOf_L touched_L size_L tracks_L x1 x2 = some r) : Cti l D cI cJ yX1_leastTrack cX1_leastTrack 5 (some .int) 1 23 [.ref (aL 0), .int x1, .int x2] (wL cI cJ aL netOf_L left_L right_L trackOf_L touched_L below_L byLeft_L size_L tracks_L) (wL cI cJ aL netOf_L left_L right_L trackOf_L touched_L below_L byLeft_L size_L tracks_L) r := by
  refine mk_i [(0, .ref (aL 0)), (1, .int x1), (2, .int x2)] (by decide) rfl (Nat.le_of_ble_eq_true rfl) rfl (fun p e s m args below meth c A Q C hk => ?_)
  unfold f_X1_leastTrack at h
  refine v_aload_n C 0 dX1_leastTrack_0 rfl rfl ?_
  refine v_get C 0 8 iuX1 rfl rfl (by decide) m1_83 rfl rfl dX1_leastTrack_1 ?_
  refine v_istore_n C [(3, .int tracks_L), (0, .ref (aL 0)), (1, .int x1), (2, .int x2)] dX1_leastTrack_4 rfl (by decide) rfl ?_
  refine v_iconst (v := 0) C dX1_leastTrack_5 (by decide) ?_
  refine v_istore C [(4, .int 0), (3, .int tracks_L), (0, .ref (aL 0)), (1, .int x1), (2, .int x2)] dX1_leastTrack_6 (by decide) rfl ?_
  obtain ⟨r, h1, h⟩ := bind_el h
  refine v_perm [2, 3, 4, 1, 0] rfl ?_
  obtain ⟨x3_2, rfl⟩ : ∃ z, z = r := ⟨_, rfl⟩
  refine t_X1_leastTrack_L8 C (s9 := (tracks_L, 0)) h1 ?_
  show V p l e (rmO 1 23) s m args below meth c 5 D A 0 0 Q 46 [(3, .int x3_2)] [] (wL cI cJ aL netOf_L left_L right_L trackOf_L touched_L below_L byLeft_L size_L tracks_L)
  try dsimp only at h
  refine v_iload_n C 0 dX1_leastTrack_46 rfl rfl ?_
  cases h
  exact hk _ _ dX1_leastTrack_47
def f_X1_countPoints_B14 (x2 : Int32) (netOf_L : (Nat → Int32)) (left_L : (Nat → Int32)) (right_L : (Nat → Int32)) (trackOf_L : (Nat → Int32)) (size_L : Int32) : (Int32 × Int32) → Option ((Int32 × Int32) ⊕ Int32)
  | (x1, x3) => if 20 ≤ x3 then (some (.inr x1)) else ((f_X1_netOn netOf_L left_L right_L trackOf_L size_L x2 x3).bind (fun r => match r with | r_1 => if r_1 = 0 then (some (.inl (x1, x3 + 1))) else (some (.inl (x1 + 1, x3 + 1)))))
def f_X1_countPoints_B4 (netOf_L : (Nat → Int32)) (left_L : (Nat → Int32)) (right_L : (Nat → Int32)) (trackOf_L : (Nat → Int32)) (size_L : Int32) (tracks_L : Int32) : (Int32 × Int32) → Option ((Int32 × Int32) ⊕ Int32)
  | (x1, x2) => if tracks_L ≤ x2 then (some (.inr x1)) else ((lp (f_X1_countPoints_B14 x2 netOf_L left_L right_L trackOf_L size_L) 64 (x1, 0)).bind (fun r => match r with | x1_2 => some (.inl (x1_2, x2 + 1))))
def f_X1_countPoints (netOf_L : (Nat → Int32)) (left_L : (Nat → Int32)) (right_L : (Nat → Int32)) (trackOf_L : (Nat → Int32)) (size_L : Int32) (tracks_L : Int32) : Option Int32 := (lp (f_X1_countPoints_B4 netOf_L left_L right_L trackOf_L size_L tracks_L) 64 (0, 0)).bind (fun r => match r with | x1_3 => some x1_3)
theorem cw_X1_countPoints : CWv yX1_countPoints cX1_countPoints 4 (some .int) RX1 0 := ⟨m1_235, ms2_2, m1_4, m1_236, rfl, by decide, by decide, by decide +kernel⟩
set_option maxHeartbeats 4000000 in
set_option maxRecDepth 100000 in
theorem t_X1_countPoints_B14 {p : Program} {l : Launch} {e : Env} {s : State} {m : MethodId} {args : Array Value} {below : List Frame} {meth : Method} {c : Code} {D : va_G} {A : Nat → Prop} {cI cJ : ClassId} {Q : State → Prop} (C : Cx p s m args c cX1_countPoints 4 RX1 D A cI cJ) {aL : Nat → Nat} {x2 : Int32} {netOf_L : (Nat → Int32)} {left_L : (Nat → Int32)} {right_L : (Nat → Int32)} {trackOf_L : (Nat → Int32)} {touched_L : (Nat → Int32)} {below_L : (Nat → Int64)} {byLeft_L : (Nat → Int32)} {size_L : Int32} {tracks_L : Int32} (s8 : (Int32 × Int32)) (o8 : (Int32 × Int32) ⊕ Int32) (h : f_X1_countPoints_B14 x2 netOf_L left_L right_L trackOf_L size_L s8 = some o8) (hl : ∀ s8, o8 = .inl s8 → V p l e (rmO 1 23) s m args below meth c 4 D A 0 0 Q 14 [(0, .ref (aL 0)), (1, .int s8.1), (2, .int x2), (3, .int s8.2)] [] (wL cI cJ aL netOf_L left_L right_L trackOf_L touched_L below_L byLeft_L size_L tracks_L)) (hx : ∀ r8, o8 = .inr r8 → V p l e (rmO 1 23) s m args below meth c 4 D A 0 0 Q 38 [(0, .ref (aL 0)), (1, .int r8), (2, .int x2)] [] (wL cI cJ aL netOf_L left_L right_L trackOf_L touched_L below_L byLeft_L size_L tracks_L)) : V p l e (rmO 1 23) s m args below meth c 4 D A 0 0 Q 14 [(0, .ref (aL 0)), (1, .int s8.1), (2, .int x2), (3, .int s8.2)] [] (wL cI cJ aL netOf_L left_L right_L trackOf_L touched_L below_L byLeft_L size_L tracks_L) := by
  obtain ⟨x1, x3⟩ := s8
  unfold f_X1_countPoints_B14 at h
  show V p l e (rmO 1 23) s m args below meth c 4 D A 0 0 Q 14 [(0, .ref (aL 0)), (1, .int x1), (2, .int x2), (3, .int x3)] [] (wL cI cJ aL netOf_L left_L right_L trackOf_L touched_L below_L byLeft_L size_L tracks_L)
  refine v_iload_n C 3 dX1_countPoints_14 rfl rfl ?_
  refine v_bipush (v := 20) C dX1_countPoints_15 (by decide) ?_
  refine v_icmp_ge (tgt := 38) C dX1_countPoints_17 (by decide) h (fun h => ?_) (fun h => ?_)
  · refine v_perm [0, 1, 2] rfl ?_
    cases h
    exact hx _ rfl
  · refine v_aload_n C 0 dX1_countPoints_20 rfl rfl ?_
    refine v_iload_n C 2 dX1_countPoints_21 rfl rfl ?_
    refine v_iload_n C 3 dX1_countPoints_22 rfl rfl ?_
    obtain ⟨r, h1, h⟩ := bind_el h
    obtain ⟨r_1, rfl⟩ : ∃ z, z = r := ⟨_, rfl⟩
    try dsimp only at h
    refine v_callVi (As := [.int x2, .int x3]) (st := []) (wr := []) (w1 := (wL cI cJ aL netOf_L left_L right_L trackOf_L touched_L below_L byLeft_L size_L tracks_L)) (ws' := (wL cI cJ aL netOf_L left_L right_L trackOf_L touched_L below_L byLeft_L size_L tracks_L)) (isC := [0, 1, 2, 3, 4, 5, 6, 7]) (isR := []) (pm := [0, 1, 2, 3, 4, 5, 6, 7]) C (c_X1_netOn l D cI cJ aL netOf_L left_L right_L trackOf_L touched_L below_L byLeft_L size_L tracks_L x2 x3 r_1 h1) cw_X1_netOn 0 rfl rfl m1_237 dX1_countPoints_23 rfl ⟨Nat.le_of_ble_eq_true rfl, Nat.le_of_ble_eq_true rfl⟩ (Nat.le_of_ble_eq_true rfl) ⟨Nat.le_refl 0, Nat.le_refl 0⟩ ⟨rfl, rfl, rfl, rfl, by decide, rfl, rfl⟩ ?_
    refine v_if_eq (tgt := 32) C dX1_countPoints_26 (by decide) h (fun h => ?_) (fun h => ?_)
    · refine v_iinc C [(3, .int (x3 + 1)), (0, .ref (aL 0)), (1, .int x1), (2, .int x2)] 3 dX1_countPoints_32 rfl rfl (by decide) rfl ?_
      refine v_goto (tgt := 14) C dX1_countPoints_35 (by decide) ?_
      refine v_perm [1, 2, 3, 0] rfl ?_
      cases h
      exact hl _ rfl
    · refine v_iinc C [(1, .int (x1 + 1)), (0, .ref (aL 0)), (2, .int x2), (3, .int x3)] 1 dX1_countPoints_29 rfl rfl (by decide) rfl ?_
      refine v_iinc C [(3, .int (x3 + 1)), (1, .int (x1 + 1)), (0, .ref (aL 0)), (2, .int x2)] 3 dX1_countPoints_32 rfl rfl (by decide) rfl ?_
      refine v_goto (tgt := 14) C dX1_countPoints_35 (by decide) ?_
      refine v_perm [2, 1, 3, 0] rfl ?_
      cases h
      exact hl _ rfl
set_option maxHeartbeats 4000000 in
set_option maxRecDepth 100000 in
theorem t_X1_countPoints_L14 {p : Program} {l : Launch} {e : Env} {s : State} {m : MethodId} {args : Array Value} {below : List Frame} {meth : Method} {c : Code} {D : va_G} {A : Nat → Prop} {cI cJ : ClassId} {Q : State → Prop} (C : Cx p s m args c cX1_countPoints 4 RX1 D A cI cJ) {aL : Nat → Nat} {x2 : Int32} {netOf_L : (Nat → Int32)} {left_L : (Nat → Int32)} {right_L : (Nat → Int32)} {trackOf_L : (Nat → Int32)} {touched_L : (Nat → Int32)} {below_L : (Nat → Int64)} {byLeft_L : (Nat → Int32)} {size_L : Int32} {tracks_L : Int32} {n8 : Nat} {s9 : (Int32 × Int32)} {o8 : Int32} (h : lp (f_X1_countPoints_B14 x2 netOf_L left_L right_L trackOf_L size_L) n8 s9 = some o8) (hk : V p l e (rmO 1 23) s m args below meth c 4 D A 0 0 Q 38 [(0, .ref (aL 0)), (1, .int o8), (2, .int x2)] [] (wL cI cJ aL netOf_L left_L right_L trackOf_L touched_L below_L byLeft_L size_L tracks_L)) : V p l e (rmO 1 23) s m args below meth c 4 D A 0 0 Q 14 [(0, .ref (aL 0)), (1, .int s9.1), (2, .int x2), (3, .int s9.2)] [] (wL cI cJ aL netOf_L left_L right_L trackOf_L touched_L below_L byLeft_L size_L tracks_L) := lp_ok (Pσ := fun s8 => V p l e (rmO 1 23) s m args below meth c 4 D A 0 0 Q 14 [(0, .ref (aL 0)), (1, .int s8.1), (2, .int x2), (3, .int s8.2)] [] (wL cI cJ aL netOf_L left_L right_L trackOf_L touched_L below_L byLeft_L size_L tracks_L)) (Pρ := fun r8 => V p l e (rmO 1 23) s m args below meth c 4 D A 0 0 Q 38 [(0, .ref (aL 0)), (1, .int r8), (2, .int x2)] [] (wL cI cJ aL netOf_L left_L right_L trackOf_L touched_L below_L byLeft_L size_L tracks_L)) (fun s o h hl hx => t_X1_countPoints_B14 C s o h hl hx) n8 s9 o8 h hk
set_option maxHeartbeats 4000000 in
set_option maxRecDepth 100000 in
theorem t_X1_countPoints_B4 {p : Program} {l : Launch} {e : Env} {s : State} {m : MethodId} {args : Array Value} {below : List Frame} {meth : Method} {c : Code} {D : va_G} {A : Nat → Prop} {cI cJ : ClassId} {Q : State → Prop} (C : Cx p s m args c cX1_countPoints 4 RX1 D A cI cJ) {aL : Nat → Nat} {netOf_L : (Nat → Int32)} {left_L : (Nat → Int32)} {right_L : (Nat → Int32)} {trackOf_L : (Nat → Int32)} {touched_L : (Nat → Int32)} {below_L : (Nat → Int64)} {byLeft_L : (Nat → Int32)} {size_L : Int32} {tracks_L : Int32} (s8 : (Int32 × Int32)) (o8 : (Int32 × Int32) ⊕ Int32) (h : f_X1_countPoints_B4 netOf_L left_L right_L trackOf_L size_L tracks_L s8 = some o8) (hl : ∀ s8, o8 = .inl s8 → V p l e (rmO 1 23) s m args below meth c 4 D A 0 0 Q 4 [(0, .ref (aL 0)), (1, .int s8.1), (2, .int s8.2)] [] (wL cI cJ aL netOf_L left_L right_L trackOf_L touched_L below_L byLeft_L size_L tracks_L)) (hx : ∀ r8, o8 = .inr r8 → V p l e (rmO 1 23) s m args below meth c 4 D A 0 0 Q 44 [(1, .int r8)] [] (wL cI cJ aL netOf_L left_L right_L trackOf_L touched_L below_L byLeft_L size_L tracks_L)) : V p l e (rmO 1 23) s m args below meth c 4 D A 0 0 Q 4 [(0, .ref (aL 0)), (1, .int s8.1), (2, .int s8.2)] [] (wL cI cJ aL netOf_L left_L right_L trackOf_L touched_L below_L byLeft_L size_L tracks_L) := by
  obtain ⟨x1, x2⟩ := s8
  unfold f_X1_countPoints_B4 at h
  show V p l e (rmO 1 23) s m args below meth c 4 D A 0 0 Q 4 [(0, .ref (aL 0)), (1, .int x1), (2, .int x2)] [] (wL cI cJ aL netOf_L left_L right_L trackOf_L touched_L below_L byLeft_L size_L tracks_L)
  refine v_iload_n C 2 dX1_countPoints_4 rfl rfl ?_
  refine v_aload_n C 0 dX1_countPoints_5 rfl rfl ?_
  refine v_get C 0 8 iuX1 rfl rfl (by decide) m1_83 rfl rfl dX1_countPoints_6 ?_
  refine v_icmp_ge (tgt := 44) C dX1_countPoints_9 (by decide) h (fun h => ?_) (fun h => ?_)
  · refine v_perm [1] rfl ?_
    cases h
    exact hx _ rfl
  · refine v_iconst (v := 0) C dX1_countPoints_12 (by decide) ?_
    refine v_istore_n C [(3, .int 0), (0, .ref (aL 0)), (1, .int x1), (2, .int x2)] dX1_countPoints_13 rfl (by decide) rfl ?_
    obtain ⟨r, h1, h⟩ := bind_el h
    refine v_perm [1, 2, 3, 0] rfl ?_
    obtain ⟨x1_2, rfl⟩ : ∃ z, z = r := ⟨_, rfl⟩
    refine t_X1_countPoints_L14 C (s9 := (x1, 0)) h1 ?_
    show V p l e (rmO 1 23) s m args below meth c 4 D A 0 0 Q 38 [(0, .ref (aL 0)), (1, .int x1_2), (2, .int x2)] [] (wL cI cJ aL netOf_L left_L right_L trackOf_L touched_L below_L byLeft_L size_L tracks_L)
    try dsimp only at h
    refine v_iinc C [(2, .int (x2 + 1)), (0, .ref (aL 0)), (1, .int x1_2)] 2 dX1_countPoints_38 rfl rfl (by decide) rfl ?_
    refine v_goto (tgt := 4) C dX1_countPoints_41 (by decide) ?_
    refine v_perm [1, 2, 0] rfl ?_
    cases h
    exact hl _ rfl
set_option maxHeartbeats 4000000 in
set_option maxRecDepth 100000 in
theorem t_X1_countPoints_L4 {p : Program} {l : Launch} {e : Env} {s : State} {m : MethodId} {args : Array Value} {below : List Frame} {meth : Method} {c : Code} {D : va_G} {A : Nat → Prop} {cI cJ : ClassId} {Q : State → Prop} (C : Cx p s m args c cX1_countPoints 4 RX1 D A cI cJ) {aL : Nat → Nat} {netOf_L : (Nat → Int32)} {left_L : (Nat → Int32)} {right_L : (Nat → Int32)} {trackOf_L : (Nat → Int32)} {touched_L : (Nat → Int32)} {below_L : (Nat → Int64)} {byLeft_L : (Nat → Int32)} {size_L : Int32} {tracks_L : Int32} {n8 : Nat} {s9 : (Int32 × Int32)} {o8 : Int32} (h : lp (f_X1_countPoints_B4 netOf_L left_L right_L trackOf_L size_L tracks_L) n8 s9 = some o8) (hk : V p l e (rmO 1 23) s m args below meth c 4 D A 0 0 Q 44 [(1, .int o8)] [] (wL cI cJ aL netOf_L left_L right_L trackOf_L touched_L below_L byLeft_L size_L tracks_L)) : V p l e (rmO 1 23) s m args below meth c 4 D A 0 0 Q 4 [(0, .ref (aL 0)), (1, .int s9.1), (2, .int s9.2)] [] (wL cI cJ aL netOf_L left_L right_L trackOf_L touched_L below_L byLeft_L size_L tracks_L) := lp_ok (Pσ := fun s8 => V p l e (rmO 1 23) s m args below meth c 4 D A 0 0 Q 4 [(0, .ref (aL 0)), (1, .int s8.1), (2, .int s8.2)] [] (wL cI cJ aL netOf_L left_L right_L trackOf_L touched_L below_L byLeft_L size_L tracks_L)) (Pρ := fun r8 => V p l e (rmO 1 23) s m args below meth c 4 D A 0 0 Q 44 [(1, .int r8)] [] (wL cI cJ aL netOf_L left_L right_L trackOf_L touched_L below_L byLeft_L size_L tracks_L)) (fun s o h hl hx => t_X1_countPoints_B4 C s o h hl hx) n8 s9 o8 h hk
set_option maxHeartbeats 4000000 in
set_option maxRecDepth 100000 in
theorem c_X1_countPoints (l : Launch) (D : va_G) (cI cJ : ClassId) (aL : Nat → Nat) (netOf_L : (Nat → Int32)) (left_L : (Nat → Int32)) (right_L : (Nat → Int32)) (trackOf_L : (Nat → Int32)) (touched_L : (Nat → Int32)) (below_L : (Nat → Int64)) (byLeft_L : (Nat → Int32)) (size_L : Int32) (tracks_L : Int32) (r : Int32) (h : f_X1_countPoints netOf_L left_L right_L trackOf_L size_L tracks_L = some r) : Cti l D cI cJ yX1_countPoints cX1_countPoints 4 (some .int) 1 23 [.ref (aL 0)] (wL cI cJ aL netOf_L left_L right_L trackOf_L touched_L below_L byLeft_L size_L tracks_L) (wL cI cJ aL netOf_L left_L right_L trackOf_L touched_L below_L byLeft_L size_L tracks_L) r := by
  refine mk_i [(0, .ref (aL 0))] (by decide) rfl (Nat.le_of_ble_eq_true rfl) rfl (fun p e s m args below meth c A Q C hk => ?_)
  unfold f_X1_countPoints at h
  refine v_iconst (v := 0) C dX1_countPoints_0 (by decide) ?_
  refine v_istore_n C [(1, .int 0), (0, .ref (aL 0))] dX1_countPoints_1 rfl (by decide) rfl ?_
  refine v_iconst (v := 0) C dX1_countPoints_2 (by decide) ?_
  refine v_istore_n C [(2, .int 0), (1, .int 0), (0, .ref (aL 0))] dX1_countPoints_3 rfl (by decide) rfl ?_
  obtain ⟨r, h1, h⟩ := bind_el h
  refine v_perm [2, 1, 0] rfl ?_
  obtain ⟨x1_3, rfl⟩ : ∃ z, z = r := ⟨_, rfl⟩
  refine t_X1_countPoints_L4 C (s9 := (0, 0)) h1 ?_
  show V p l e (rmO 1 23) s m args below meth c 4 D A 0 0 Q 44 [(1, .int x1_3)] [] (wL cI cJ aL netOf_L left_L right_L trackOf_L touched_L below_L byLeft_L size_L tracks_L)
  try dsimp only at h
  refine v_iload_n C 0 dX1_countPoints_44 rfl rfl ?_
  cases h
  exact hk _ _ dX1_countPoints_45
end
section
abbrev wR (cI cJ : ClassId) (aR : Nat → Nat) (reach_R : (Nat → Int64)) (steps_R : (Nat → Int32)) (told_R : (Nat → Int32)) (length_R : Int32) : va_W := [(aR 0, .inr (2, [.ref (aR 1), .ref (aR 2), .ref (aR 3), .int length_R])), (aR 1, .inl (cJ, 38, .inr (.inl reach_R))), (aR 2, .inl (cI, 38, .inl steps_R)), (aR 3, .inl (cI, 38, .inl told_R))]
def f_X2_toldAt (told_R : (Nat → Int32)) (length_R : Int32) (x1 : Int32) : Option Int32 := if x1 < 0 then (some (-1)) else (if length_R ≤ x1 then (some (-1)) else (bnd x1 38 (some (told_R x1.toNatClampNeg))))
theorem cw_X2_toldAt : CWv yX2_toldAt cX2_toldAt 2 (some .int) RX2 1 := ⟨m1_132, ms1_0, m1_3, m1_133, rfl, by decide, by decide, by decide +kernel⟩
set_option maxHeartbeats 4000000 in
set_option maxRecDepth 100000 in
theorem c_X2_toldAt (l : Launch) (D : va_G) (cI cJ : ClassId) (aR : Nat → Nat) (reach_R : (Nat → Int64)) (steps_R : (Nat → Int32)) (told_R : (Nat → Int32)) (length_R : Int32) (x1 : Int32) (r : Int32) (h : f_X2_toldAt told_R length_R x1 = some r) : Cti l D cI cJ yX2_toldAt cX2_toldAt 2 (some .int) 0 0 [.ref (aR 0), .int x1] (wR cI cJ aR reach_R steps_R told_R length_R) (wR cI cJ aR reach_R steps_R told_R length_R) r := by
  refine mk_i [(0, .ref (aR 0)), (1, .int x1)] (by decide) rfl (Nat.le_of_ble_eq_true rfl) rfl (fun p e s m args below meth c A Q C hk => ?_)
  unfold f_X2_toldAt at h
  refine v_iload_n C 1 dX2_toldAt_0 rfl rfl ?_
  refine v_if_lt (tgt := 21) C dX2_toldAt_1 (by decide) h (fun h => ?_) (fun h => ?_)
  · refine v_iconst (v := (-1)) C dX2_toldAt_21 (by decide) ?_
    cases h
    exact hk _ _ dX2_toldAt_22
  · refine v_iload_n C 1 dX2_toldAt_4 rfl rfl ?_
    refine v_aload_n C 0 dX2_toldAt_5 rfl rfl ?_
    refine v_get C 0 3 iuX2 rfl rfl (by decide) m1_51 rfl rfl dX2_toldAt_6 ?_
    refine v_icmp_ge (tgt := 21) C dX2_toldAt_9 (by decide) h (fun h => ?_) (fun h => ?_)
    · refine v_iconst (v := (-1)) C dX2_toldAt_21 (by decide) ?_
      cases h
      exact hk _ _ dX2_toldAt_22
    · refine v_aload_n C 0 dX2_toldAt_12 rfl rfl ?_
      refine v_get C 0 2 iuX2 rfl rfl (by decide) m1_50 rfl rfl dX2_toldAt_13 ?_
      refine v_iload_n C 1 dX2_toldAt_16 rfl rfl ?_
      refine v_iald C 3 rfl dX2_toldAt_17 h (fun h => ?_)
      refine v_goto (tgt := 22) C dX2_toldAt_18 (by decide) ?_
      cases h
      exact hk _ _ dX2_toldAt_22
abbrev wRL (cI cJ : ClassId) (aR : Nat → Nat) (aL : Nat → Nat) (reach_R : (Nat → Int64)) (steps_R : (Nat → Int32)) (told_R : (Nat → Int32)) (length_R : Int32) (netOf_L : (Nat → Int32)) (left_L : (Nat → Int32)) (right_L : (Nat → Int32)) (trackOf_L : (Nat → Int32)) (touched_L : (Nat → Int32)) (below_L : (Nat → Int64)) (byLeft_L : (Nat → Int32)) (size_L : Int32) (tracks_L : Int32) : va_W := [(aR 0, .inr (2, [.ref (aR 1), .ref (aR 2), .ref (aR 3), .int length_R])), (aR 1, .inl (cJ, 38, .inr (.inl reach_R))), (aR 2, .inl (cI, 38, .inl steps_R)), (aR 3, .inl (cI, 38, .inl told_R)), (aL 0, .inr (1, [.ref (aL 1), .ref (aL 2), .ref (aL 3), .ref (aL 4), .ref (aL 5), .ref (aL 6), .ref (aL 7), .int size_L, .int tracks_L])), (aL 1, .inl (cI, 38, .inl netOf_L)), (aL 2, .inl (cI, 38, .inl left_L)), (aL 3, .inl (cI, 38, .inl right_L)), (aL 4, .inl (cI, 38, .inl trackOf_L)), (aL 5, .inl (cI, 38, .inl touched_L)), (aL 6, .inl (cJ, 38, .inr (.inl below_L))), (aL 7, .inl (cI, 38, .inl byLeft_L))]
def f_X2_findReach_B27 (x2 : Int32) (size_L : Int32) : (Int32 × (Nat → Int64)) → Option ((Int32 × (Nat → Int64)) ⊕ (Nat → Int64))
  | (x3, reach_R) => if size_L ≤ x3 then (some (.inr reach_R)) else (bnd x3 38 ((f_X1_isIn (reach_R x3.toNatClampNeg) x2).bind (fun r => match r with | r_1 => if r_1 = 0 then (some (.inl (x3 + 1, reach_R))) else (bnd x3 38 (bnd x2 38 (bnd x3 38 (some (.inl ((x3 + 1, vp_updL reach_R x3.toNatClampNeg ((reach_R x3.toNatClampNeg) ||| (reach_R x2.toNatClampNeg))))))))))))
def f_X2_findReach_B17 (size_L : Int32) : (Int32 × (Nat → Int64)) → Option ((Int32 × (Nat → Int64)) ⊕ (Nat → Int64))
  | (x2, reach_R) => if size_L ≤ x2 then (some (.inr reach_R)) else ((lp (f_X2_findReach_B27 x2 size_L) 64 (0, reach_R)).bind (fun r => match r with | reach_R_2 => some (.inl (x2 + 1, reach_R_2))))
def f_X2_findReach (reach_R : (Nat → Int64)) (below_L : (Nat → Int64)) (size_L : Int32) : Option (Nat → Int64) := (lp (f_X2_findReach_B17 size_L) 64 (0, va_cpy below_L reach_R 0 0 38)).bind (fun r => match r with | reach_R_3 => some reach_R_3)
theorem cw_X2_findReach : CWv yX2_findReach cX2_findReach 4 none RX2 1 := ⟨m2_128, ms2_9, m1_3, m2_129, rfl, by decide, by decide, by decide +kernel⟩
set_option maxHeartbeats 4000000 in
set_option maxRecDepth 100000 in
theorem t_X2_findReach_B27 {p : Program} {l : Launch} {e : Env} {s : State} {m : MethodId} {args : Array Value} {below : List Frame} {meth : Method} {c : Code} {D : va_G} {A : Nat → Prop} {cI cJ : ClassId} {Q : State → Prop} (C : Cx p s m args c cX2_findReach 4 RX2 D A cI cJ) {aR : Nat → Nat} {aL : Nat → Nat} {x2 : Int32} {steps_R : (Nat → Int32)} {told_R : (Nat → Int32)} {length_R : Int32} {netOf_L : (Nat → Int32)} {left_L : (Nat → Int32)} {right_L : (Nat → Int32)} {trackOf_L : (Nat → Int32)} {touched_L : (Nat → Int32)} {below_L : (Nat → Int64)} {byLeft_L : (Nat → Int32)} {size_L : Int32} {tracks_L : Int32} (s8 : (Int32 × (Nat → Int64))) (o8 : (Int32 × (Nat → Int64)) ⊕ (Nat → Int64)) (h : f_X2_findReach_B27 x2 size_L s8 = some o8) (hl : ∀ s8, o8 = .inl s8 → V p l e (rmO 1 40) s m args below meth c 4 D A 0 0 Q 27 [(0, .ref (aR 0)), (1, .ref (aL 0)), (2, .int x2), (3, .int s8.1)] [] (wRL cI cJ aR aL s8.2 steps_R told_R length_R netOf_L left_L right_L trackOf_L touched_L below_L byLeft_L size_L tracks_L)) (hx : ∀ r8, o8 = .inr r8 → V p l e (rmO 1 40) s m args below meth c 4 D A 0 0 Q 69 [(0, .ref (aR 0)), (1, .ref (aL 0)), (2, .int x2)] [] (wRL cI cJ aR aL r8 steps_R told_R length_R netOf_L left_L right_L trackOf_L touched_L below_L byLeft_L size_L tracks_L)) : V p l e (rmO 1 40) s m args below meth c 4 D A 0 0 Q 27 [(0, .ref (aR 0)), (1, .ref (aL 0)), (2, .int x2), (3, .int s8.1)] [] (wRL cI cJ aR aL s8.2 steps_R told_R length_R netOf_L left_L right_L trackOf_L touched_L below_L byLeft_L size_L tracks_L) := by
  obtain ⟨x3, reach_R⟩ := s8
  unfold f_X2_findReach_B27 at h
  show V p l e (rmO 1 40) s m args below meth c 4 D A 0 0 Q 27 [(0, .ref (aR 0)), (1, .ref (aL 0)), (2, .int x2), (3, .int x3)] [] (wRL cI cJ aR aL reach_R steps_R told_R length_R netOf_L left_L right_L trackOf_L touched_L below_L byLeft_L size_L tracks_L)
  refine v_iload_n C 3 dX2_findReach_27 rfl rfl ?_
  refine v_aload_n C 1 dX2_findReach_28 rfl rfl ?_
  refine v_getN C 4 7 iuX1 rfl rfl (by decide) nw_12 rfl rfl dX2_findReach_29 ?_
  refine v_icmp_ge (tgt := 69) C dX2_findReach_32 (by decide) h (fun h => ?_) (fun h => ?_)
  · refine v_perm [0, 1, 2] rfl ?_
    cases h
    exact hx _ rfl
  · refine v_aload_n C 0 dX2_findReach_35 rfl rfl ?_
    refine v_get C 0 0 iuX2 rfl rfl (by decide) m1_48 rfl rfl dX2_findReach_36 ?_
    refine v_iload_n C 3 dX2_findReach_39 rfl rfl ?_
    refine v_lald C 1 rfl dX2_findReach_40 h (fun h => ?_)
    refine v_iload_n C 2 dX2_findReach_41 rfl rfl ?_
    obtain ⟨r, h1, h⟩ := bind_el h
    obtain ⟨r_1, rfl⟩ : ∃ z, z = r := ⟨_, rfl⟩
    try dsimp only at h
    refine v_callSNi (As := [.long (reach_R x3.toNatClampNeg), .int x2]) (st := []) (wr := [(aR 0, .inr (2, [.ref (aR 1), .ref (aR 2), .ref (aR 3), .int length_R])), (aR 1, .inl (cJ, 38, .inr (.inl reach_R))), (aR 2, .inl (cI, 38, .inl steps_R)), (aR 3, .inl (cI, 38, .inl told_R)), (aL 0, .inr (1, [.ref (aL 1), .ref (aL 2), .ref (aL 3), .ref (aL 4), .ref (aL 5), .ref (aL 6), .ref (aL 7), .int size_L, .int tracks_L])), (aL 1, .inl (cI, 38, .inl netOf_L)), (aL 2, .inl (cI, 38, .inl left_L)), (aL 3, .inl (cI, 38, .inl right_L)), (aL 4, .inl (cI, 38, .inl trackOf_L)), (aL 5, .inl (cI, 38, .inl touched_L)), (aL 6, .inl (cJ, 38, .inr (.inl below_L))), (aL 7, .inl (cI, 38, .inl byLeft_L))]) (w1 := []) (ws' := (wRL cI cJ aR aL reach_R steps_R told_R length_R netOf_L left_L right_L trackOf_L touched_L below_L byLeft_L size_L tracks_L)) (isC := []) (isR := [0, 1, 2, 3, 4, 5, 6, 7, 8, 9, 10, 11]) (pm := [0, 1, 2, 3, 4, 5, 6, 7, 8, 9, 10, 11]) C (c_X1_isIn l D cI cJ (reach_R x3.toNatClampNeg) x2 r_1 h1) cw_X1_isIn nw_28 dX2_findReach_42 rfl ⟨Nat.le_of_ble_eq_true rfl, Nat.le_of_ble_eq_true rfl⟩ (Nat.le_of_ble_eq_true rfl) ⟨Nat.le_refl 0, Nat.le_refl 0⟩ ⟨rfl, rfl, rfl, rfl, by decide, rfl, rfl⟩ ?_
    refine v_if_eq (tgt := 63) C dX2_findReach_45 (by decide) h (fun h => ?_) (fun h => ?_)
    · refine v_iinc C [(3, .int (x3 + 1)), (0, .ref (aR 0)), (1, .ref (aL 0)), (2, .int x2)] 3 dX2_findReach_63 rfl rfl (by decide) rfl ?_
      refine v_goto (tgt := 27) C dX2_findReach_66 (by decide) ?_
      refine v_perm [1, 2, 3, 0] rfl ?_
      cases h
      exact hl _ rfl
    · refine v_aload_n C 0 dX2_findReach_48 rfl rfl ?_
      refine v_get C 0 0 iuX2 rfl rfl (by decide) m1_48 rfl rfl dX2_findReach_49 ?_
      refine v_iload_n C 3 dX2_findReach_52 rfl rfl ?_
      refine v_dup2 C dX2_findReach_53 rfl rfl ?_
      refine v_lald C 1 rfl dX2_findReach_54 h (fun h => ?_)
      refine v_aload_n C 0 dX2_findReach_55 rfl rfl ?_
      refine v_get C 0 0 iuX2 rfl rfl (by decide) m1_48 rfl rfl dX2_findReach_56 ?_
      refine v_iload_n C 2 dX2_findReach_59 rfl rfl ?_
      refine v_lald C 1 rfl dX2_findReach_60 h (fun h => ?_)
      refine v_lor C dX2_findReach_61 ?_
      refine v_last C (wRL cI cJ aR aL (vp_updL reach_R x3.toNatClampNeg ((reach_R x3.toNatClampNeg) ||| (reach_R x2.toNatClampNeg))) steps_R told_R length_R netOf_L left_L right_L trackOf_L touched_L below_L byLeft_L size_L tracks_L) 1 rfl dX2_findReach_62 h rfl (fun h => ?_)
      refine v_iinc C [(3, .int (x3 + 1)), (0, .ref (aR 0)), (1, .ref (aL 0)), (2, .int x2)] 3 dX2_findReach_63 rfl rfl (by decide) rfl ?_
      refine v_goto (tgt := 27) C dX2_findReach_66 (by decide) ?_
      refine v_perm [1, 2, 3, 0] rfl ?_
      cases h
      exact hl _ rfl
set_option maxHeartbeats 4000000 in
set_option maxRecDepth 100000 in
theorem t_X2_findReach_L27 {p : Program} {l : Launch} {e : Env} {s : State} {m : MethodId} {args : Array Value} {below : List Frame} {meth : Method} {c : Code} {D : va_G} {A : Nat → Prop} {cI cJ : ClassId} {Q : State → Prop} (C : Cx p s m args c cX2_findReach 4 RX2 D A cI cJ) {aR : Nat → Nat} {aL : Nat → Nat} {x2 : Int32} {steps_R : (Nat → Int32)} {told_R : (Nat → Int32)} {length_R : Int32} {netOf_L : (Nat → Int32)} {left_L : (Nat → Int32)} {right_L : (Nat → Int32)} {trackOf_L : (Nat → Int32)} {touched_L : (Nat → Int32)} {below_L : (Nat → Int64)} {byLeft_L : (Nat → Int32)} {size_L : Int32} {tracks_L : Int32} {n8 : Nat} {s9 : (Int32 × (Nat → Int64))} {o8 : (Nat → Int64)} (h : lp (f_X2_findReach_B27 x2 size_L) n8 s9 = some o8) (hk : V p l e (rmO 1 40) s m args below meth c 4 D A 0 0 Q 69 [(0, .ref (aR 0)), (1, .ref (aL 0)), (2, .int x2)] [] (wRL cI cJ aR aL o8 steps_R told_R length_R netOf_L left_L right_L trackOf_L touched_L below_L byLeft_L size_L tracks_L)) : V p l e (rmO 1 40) s m args below meth c 4 D A 0 0 Q 27 [(0, .ref (aR 0)), (1, .ref (aL 0)), (2, .int x2), (3, .int s9.1)] [] (wRL cI cJ aR aL s9.2 steps_R told_R length_R netOf_L left_L right_L trackOf_L touched_L below_L byLeft_L size_L tracks_L) := lp_ok (Pσ := fun s8 => V p l e (rmO 1 40) s m args below meth c 4 D A 0 0 Q 27 [(0, .ref (aR 0)), (1, .ref (aL 0)), (2, .int x2), (3, .int s8.1)] [] (wRL cI cJ aR aL s8.2 steps_R told_R length_R netOf_L left_L right_L trackOf_L touched_L below_L byLeft_L size_L tracks_L)) (Pρ := fun r8 => V p l e (rmO 1 40) s m args below meth c 4 D A 0 0 Q 69 [(0, .ref (aR 0)), (1, .ref (aL 0)), (2, .int x2)] [] (wRL cI cJ aR aL r8 steps_R told_R length_R netOf_L left_L right_L trackOf_L touched_L below_L byLeft_L size_L tracks_L)) (fun s o h hl hx => t_X2_findReach_B27 C s o h hl hx) n8 s9 o8 h hk
set_option maxHeartbeats 4000000 in
set_option maxRecDepth 100000 in
theorem t_X2_findReach_B17 {p : Program} {l : Launch} {e : Env} {s : State} {m : MethodId} {args : Array Value} {below : List Frame} {meth : Method} {c : Code} {D : va_G} {A : Nat → Prop} {cI cJ : ClassId} {Q : State → Prop} (C : Cx p s m args c cX2_findReach 4 RX2 D A cI cJ) {aR : Nat → Nat} {aL : Nat → Nat} {steps_R : (Nat → Int32)} {told_R : (Nat → Int32)} {length_R : Int32} {netOf_L : (Nat → Int32)} {left_L : (Nat → Int32)} {right_L : (Nat → Int32)} {trackOf_L : (Nat → Int32)} {touched_L : (Nat → Int32)} {below_L : (Nat → Int64)} {byLeft_L : (Nat → Int32)} {size_L : Int32} {tracks_L : Int32} (s8 : (Int32 × (Nat → Int64))) (o8 : (Int32 × (Nat → Int64)) ⊕ (Nat → Int64)) (h : f_X2_findReach_B17 size_L s8 = some o8) (hl : ∀ s8, o8 = .inl s8 → V p l e (rmO 1 40) s m args below meth c 4 D A 0 0 Q 17 [(0, .ref (aR 0)), (1, .ref (aL 0)), (2, .int s8.1)] [] (wRL cI cJ aR aL s8.2 steps_R told_R length_R netOf_L left_L right_L trackOf_L touched_L below_L byLeft_L size_L tracks_L)) (hx : ∀ r8, o8 = .inr r8 → V p l e (rmO 1 40) s m args below meth c 4 D A 0 0 Q 75 [] [] (wRL cI cJ aR aL r8 steps_R told_R length_R netOf_L left_L right_L trackOf_L touched_L below_L byLeft_L size_L tracks_L)) : V p l e (rmO 1 40) s m args below meth c 4 D A 0 0 Q 17 [(0, .ref (aR 0)), (1, .ref (aL 0)), (2, .int s8.1)] [] (wRL cI cJ aR aL s8.2 steps_R told_R length_R netOf_L left_L right_L trackOf_L touched_L below_L byLeft_L size_L tracks_L) := by
  obtain ⟨x2, reach_R⟩ := s8
  unfold f_X2_findReach_B17 at h
  show V p l e (rmO 1 40) s m args below meth c 4 D A 0 0 Q 17 [(0, .ref (aR 0)), (1, .ref (aL 0)), (2, .int x2)] [] (wRL cI cJ aR aL reach_R steps_R told_R length_R netOf_L left_L right_L trackOf_L touched_L below_L byLeft_L size_L tracks_L)
  refine v_iload_n C 2 dX2_findReach_17 rfl rfl ?_
  refine v_aload_n C 1 dX2_findReach_18 rfl rfl ?_
  refine v_getN C 4 7 iuX1 rfl rfl (by decide) nw_12 rfl rfl dX2_findReach_19 ?_
  refine v_icmp_ge (tgt := 75) C dX2_findReach_22 (by decide) h (fun h => ?_) (fun h => ?_)
  · refine v_perm [] rfl ?_
    cases h
    exact hx _ rfl
  · refine v_iconst (v := 0) C dX2_findReach_25 (by decide) ?_
    refine v_istore_n C [(3, .int 0), (0, .ref (aR 0)), (1, .ref (aL 0)), (2, .int x2)] dX2_findReach_26 rfl (by decide) rfl ?_
    obtain ⟨r, h1, h⟩ := bind_el h
    refine v_perm [1, 2, 3, 0] rfl ?_
    obtain ⟨reach_R_2, rfl⟩ : ∃ z, z = r := ⟨_, rfl⟩
    refine t_X2_findReach_L27 C (s9 := (0, reach_R)) h1 ?_
    show V p l e (rmO 1 40) s m args below meth c 4 D A 0 0 Q 69 [(0, .ref (aR 0)), (1, .ref (aL 0)), (2, .int x2)] [] (wRL cI cJ aR aL reach_R_2 steps_R told_R length_R netOf_L left_L right_L trackOf_L touched_L below_L byLeft_L size_L tracks_L)
    try dsimp only at h
    refine v_iinc C [(2, .int (x2 + 1)), (0, .ref (aR 0)), (1, .ref (aL 0))] 2 dX2_findReach_69 rfl rfl (by decide) rfl ?_
    refine v_goto (tgt := 17) C dX2_findReach_72 (by decide) ?_
    refine v_perm [1, 2, 0] rfl ?_
    cases h
    exact hl _ rfl
set_option maxHeartbeats 4000000 in
set_option maxRecDepth 100000 in
theorem t_X2_findReach_L17 {p : Program} {l : Launch} {e : Env} {s : State} {m : MethodId} {args : Array Value} {below : List Frame} {meth : Method} {c : Code} {D : va_G} {A : Nat → Prop} {cI cJ : ClassId} {Q : State → Prop} (C : Cx p s m args c cX2_findReach 4 RX2 D A cI cJ) {aR : Nat → Nat} {aL : Nat → Nat} {steps_R : (Nat → Int32)} {told_R : (Nat → Int32)} {length_R : Int32} {netOf_L : (Nat → Int32)} {left_L : (Nat → Int32)} {right_L : (Nat → Int32)} {trackOf_L : (Nat → Int32)} {touched_L : (Nat → Int32)} {below_L : (Nat → Int64)} {byLeft_L : (Nat → Int32)} {size_L : Int32} {tracks_L : Int32} {n8 : Nat} {s9 : (Int32 × (Nat → Int64))} {o8 : (Nat → Int64)} (h : lp (f_X2_findReach_B17 size_L) n8 s9 = some o8) (hk : V p l e (rmO 1 40) s m args below meth c 4 D A 0 0 Q 75 [] [] (wRL cI cJ aR aL o8 steps_R told_R length_R netOf_L left_L right_L trackOf_L touched_L below_L byLeft_L size_L tracks_L)) : V p l e (rmO 1 40) s m args below meth c 4 D A 0 0 Q 17 [(0, .ref (aR 0)), (1, .ref (aL 0)), (2, .int s9.1)] [] (wRL cI cJ aR aL s9.2 steps_R told_R length_R netOf_L left_L right_L trackOf_L touched_L below_L byLeft_L size_L tracks_L) := lp_ok (Pσ := fun s8 => V p l e (rmO 1 40) s m args below meth c 4 D A 0 0 Q 17 [(0, .ref (aR 0)), (1, .ref (aL 0)), (2, .int s8.1)] [] (wRL cI cJ aR aL s8.2 steps_R told_R length_R netOf_L left_L right_L trackOf_L touched_L below_L byLeft_L size_L tracks_L)) (Pρ := fun r8 => V p l e (rmO 1 40) s m args below meth c 4 D A 0 0 Q 75 [] [] (wRL cI cJ aR aL r8 steps_R told_R length_R netOf_L left_L right_L trackOf_L touched_L below_L byLeft_L size_L tracks_L)) (fun s o h hl hx => t_X2_findReach_B17 C s o h hl hx) n8 s9 o8 h hk
set_option maxHeartbeats 4000000 in
set_option maxRecDepth 100000 in
theorem c_X2_findReach (l : Launch) (D : va_G) (cI cJ : ClassId) (aR : Nat → Nat) (aL : Nat → Nat) (reach_R : (Nat → Int64)) (steps_R : (Nat → Int32)) (told_R : (Nat → Int32)) (length_R : Int32) (netOf_L : (Nat → Int32)) (left_L : (Nat → Int32)) (right_L : (Nat → Int32)) (trackOf_L : (Nat → Int32)) (touched_L : (Nat → Int32)) (below_L : (Nat → Int64)) (byLeft_L : (Nat → Int32)) (size_L : Int32) (tracks_L : Int32) (reach_R' : (Nat → Int64)) (h : f_X2_findReach reach_R below_L size_L = some reach_R') : Ctv l D cI cJ yX2_findReach cX2_findReach 4 none 1 40 [.ref (aR 0), .ref (aL 0)] (wRL cI cJ aR aL reach_R steps_R told_R length_R netOf_L left_L right_L trackOf_L touched_L below_L byLeft_L size_L tracks_L) (wRL cI cJ aR aL reach_R' steps_R told_R length_R netOf_L left_L right_L trackOf_L touched_L below_L byLeft_L size_L tracks_L) := by
  refine mk_v [(0, .ref (aR 0)), (1, .ref (aL 0))] (by decide) rfl (Nat.le_of_ble_eq_true rfl) rfl (fun p e s m args below meth c A Q C hk => ?_)
  unfold f_X2_findReach at h
  refine v_aload_n C 1 dX2_findReach_0 rfl rfl ?_
  refine v_getN C 4 5 iuX1 rfl rfl (by decide) nw_11 rfl rfl dX2_findReach_1 ?_
  refine v_iconst (v := 0) C dX2_findReach_4 (by decide) ?_
  refine v_aload_n C 0 dX2_findReach_5 rfl rfl ?_
  refine v_get C 0 0 iuX2 rfl rfl (by decide) m1_48 rfl rfl dX2_findReach_6 ?_
  refine v_iconst (v := 0) C dX2_findReach_9 (by decide) ?_
  refine v_bipush (v := 38) C dX2_findReach_10 (by decide) ?_
  refine v_copyl C (wRL cI cJ aR aL (va_cpy below_L reach_R 0 0 38) steps_R told_R length_R netOf_L left_L right_L trackOf_L touched_L below_L byLeft_L size_L tracks_L) 10 1 m2_130 dX2_findReach_12 (Nat.le_of_ble_eq_true rfl) (by decide) rfl rfl rfl ?_
  refine v_iconst (v := 0) C dX2_findReach_15 (by decide) ?_
  refine v_istore_n C [(2, .int 0), (0, .ref (aR 0)), (1, .ref (aL 0))] dX2_findReach_16 rfl (by decide) rfl ?_
  obtain ⟨r, h1, h⟩ := bind_el h
  refine v_perm [1, 2, 0] rfl ?_
  obtain ⟨reach_R_3, rfl⟩ : ∃ z, z = r := ⟨_, rfl⟩
  refine t_X2_findReach_L17 C (s9 := (0, va_cpy below_L reach_R 0 0 38)) h1 ?_
  show V p l e (rmO 1 40) s m args below meth c 4 D A 0 0 Q 75 [] [] (wRL cI cJ aR aL reach_R_3 steps_R told_R length_R netOf_L left_L right_L trackOf_L touched_L below_L byLeft_L size_L tracks_L)
  try dsimp only at h
  cases h
  exact hk _ _ dX2_findReach_75
def f_X2_lowestInRing_B7 (reach_R : (Nat → Int64)) (size_L : Int32) : Int32 → Option (Int32 ⊕ (Unit ⊕ Int32))
  | x2 => if size_L ≤ x2 then (some (.inr (.inl ()))) else (bnd x2 38 ((f_X1_isIn (reach_R x2.toNatClampNeg) x2).bind (fun r => match r with | r_2 => if r_2 = 0 then (some (.inl (x2 + 1))) else (some (.inr (.inr x2))))))
def f_X2_lowestInRing (reach_R : (Nat → Int64)) (below_L : (Nat → Int64)) (size_L : Int32) : Option (Int32 × (Nat → Int64)) := (f_X2_findReach reach_R below_L size_L).bind (fun r => match r with | reach_R_1 => (lp (f_X2_lowestInRing_B7 reach_R_1 size_L) 64 0).bind (fun r => match r with | .inl _ => some (((-1), reach_R_1)) | .inr x2_3 => some (x2_3, reach_R_1)))
theorem cw_X2_lowestInRing : CWv yX2_lowestInRing cX2_lowestInRing 3 (some .int) RX2 1 := ⟨m2_124, ms2_8, m1_3, m2_125, rfl, by decide, by decide, by decide +kernel⟩
set_option maxHeartbeats 4000000 in
set_option maxRecDepth 100000 in
theorem t_X2_lowestInRing_B7 {p : Program} {l : Launch} {e : Env} {s : State} {m : MethodId} {args : Array Value} {below : List Frame} {meth : Method} {c : Code} {D : va_G} {A : Nat → Prop} {cI cJ : ClassId} {Q : State → Prop} (C : Cx p s m args c cX2_lowestInRing 3 RX2 D A cI cJ) {aR : Nat → Nat} {aL : Nat → Nat} {reach_R : (Nat → Int64)} {steps_R : (Nat → Int32)} {told_R : (Nat → Int32)} {length_R : Int32} {netOf_L : (Nat → Int32)} {left_L : (Nat → Int32)} {right_L : (Nat → Int32)} {trackOf_L : (Nat → Int32)} {touched_L : (Nat → Int32)} {below_L : (Nat → Int64)} {byLeft_L : (Nat → Int32)} {size_L : Int32} {tracks_L : Int32} (s8 : Int32) (o8 : Int32 ⊕ (Unit ⊕ Int32)) (h : f_X2_lowestInRing_B7 reach_R size_L s8 = some o8) (hl : ∀ s8, o8 = .inl s8 → V p l e (rmO 2 63) s m args below meth c 3 D A 0 0 Q 7 [(0, .ref (aR 0)), (1, .ref (aL 0)), (2, .int s8)] [] (wRL cI cJ aR aL reach_R steps_R told_R length_R netOf_L left_L right_L trackOf_L touched_L below_L byLeft_L size_L tracks_L)) (hx0 : ∀ r8, o8 = .inr (.inl r8) → V p l e (rmO 2 63) s m args below meth c 3 D A 0 0 Q 36 [] [] (wRL cI cJ aR aL reach_R steps_R told_R length_R netOf_L left_L right_L trackOf_L touched_L below_L byLeft_L size_L tracks_L)) (hx1 : ∀ r8, o8 = .inr (.inr r8) → V p l e (rmO 2 63) s m args below meth c 3 D A 0 0 Q 28 [(2, .int r8)] [] (wRL cI cJ aR aL reach_R steps_R told_R length_R netOf_L left_L right_L trackOf_L touched_L below_L byLeft_L size_L tracks_L)) : V p l e (rmO 2 63) s m args below meth c 3 D A 0 0 Q 7 [(0, .ref (aR 0)), (1, .ref (aL 0)), (2, .int s8)] [] (wRL cI cJ aR aL reach_R steps_R told_R length_R netOf_L left_L right_L trackOf_L touched_L below_L byLeft_L size_L tracks_L) := by
  obtain ⟨x2, rfl⟩ : ∃ z, z = s8 := ⟨_, rfl⟩
  unfold f_X2_lowestInRing_B7 at h
  show V p l e (rmO 2 63) s m args below meth c 3 D A 0 0 Q 7 [(0, .ref (aR 0)), (1, .ref (aL 0)), (2, .int x2)] [] (wRL cI cJ aR aL reach_R steps_R told_R length_R netOf_L left_L right_L trackOf_L touched_L below_L byLeft_L size_L tracks_L)
  refine v_iload_n C 2 dX2_lowestInRing_7 rfl rfl ?_
  refine v_aload_n C 1 dX2_lowestInRing_8 rfl rfl ?_
  refine v_getN C 4 7 iuX1 rfl rfl (by decide) nw_12 rfl rfl dX2_lowestInRing_9 ?_
  refine v_icmp_ge (tgt := 36) C dX2_lowestInRing_12 (by decide) h (fun h => ?_) (fun h => ?_)
  · refine v_perm [] rfl ?_
    cases h
    exact hx0 _ rfl
  · refine v_aload_n C 0 dX2_lowestInRing_15 rfl rfl ?_
    refine v_get C 0 0 iuX2 rfl rfl (by decide) m1_48 rfl rfl dX2_lowestInRing_16 ?_
    refine v_iload_n C 2 dX2_lowestInRing_19 rfl rfl ?_
    refine v_lald C 1 rfl dX2_lowestInRing_20 h (fun h => ?_)
    refine v_iload_n C 2 dX2_lowestInRing_21 rfl rfl ?_
    obtain ⟨r, h1, h⟩ := bind_el h
    obtain ⟨r_2, rfl⟩ : ∃ z, z = r := ⟨_, rfl⟩
    try dsimp only at h
    refine v_callSNi (As := [.long (reach_R x2.toNatClampNeg), .int x2]) (st := []) (wr := [(aR 0, .inr (2, [.ref (aR 1), .ref (aR 2), .ref (aR 3), .int length_R])), (aR 1, .inl (cJ, 38, .inr (.inl reach_R))), (aR 2, .inl (cI, 38, .inl steps_R)), (aR 3, .inl (cI, 38, .inl told_R)), (aL 0, .inr (1, [.ref (aL 1), .ref (aL 2), .ref (aL 3), .ref (aL 4), .ref (aL 5), .ref (aL 6), .ref (aL 7), .int size_L, .int tracks_L])), (aL 1, .inl (cI, 38, .inl netOf_L)), (aL 2, .inl (cI, 38, .inl left_L)), (aL 3, .inl (cI, 38, .inl right_L)), (aL 4, .inl (cI, 38, .inl trackOf_L)), (aL 5, .inl (cI, 38, .inl touched_L)), (aL 6, .inl (cJ, 38, .inr (.inl below_L))), (aL 7, .inl (cI, 38, .inl byLeft_L))]) (w1 := []) (ws' := (wRL cI cJ aR aL reach_R steps_R told_R length_R netOf_L left_L right_L trackOf_L touched_L below_L byLeft_L size_L tracks_L)) (isC := []) (isR := [0, 1, 2, 3, 4, 5, 6, 7, 8, 9, 10, 11]) (pm := [0, 1, 2, 3, 4, 5, 6, 7, 8, 9, 10, 11]) C (c_X1_isIn l D cI cJ (reach_R x2.toNatClampNeg) x2 r_2 h1) cw_X1_isIn nw_28 dX2_lowestInRing_22 rfl ⟨Nat.le_of_ble_eq_true rfl, Nat.le_of_ble_eq_true rfl⟩ (Nat.le_of_ble_eq_true rfl) ⟨Nat.le_refl 0, Nat.le_refl 0⟩ ⟨rfl, rfl, rfl, rfl, by decide, rfl, rfl⟩ ?_
    refine v_if_eq (tgt := 30) C dX2_lowestInRing_25 (by decide) h (fun h => ?_) (fun h => ?_)
    · refine v_iinc C [(2, .int (x2 + 1)), (0, .ref (aR 0)), (1, .ref (aL 0))] 2 dX2_lowestInRing_30 rfl rfl (by decide) rfl ?_
      refine v_goto (tgt := 7) C dX2_lowestInRing_33 (by decide) ?_
      refine v_perm [1, 2, 0] rfl ?_
      cases h
      exact hl _ rfl
    · refine v_perm [2] rfl ?_
      cases h
      exact hx1 _ rfl
set_option maxHeartbeats 4000000 in
set_option maxRecDepth 100000 in
theorem t_X2_lowestInRing_L7 {p : Program} {l : Launch} {e : Env} {s : State} {m : MethodId} {args : Array Value} {below : List Frame} {meth : Method} {c : Code} {D : va_G} {A : Nat → Prop} {cI cJ : ClassId} {Q : State → Prop} (C : Cx p s m args c cX2_lowestInRing 3 RX2 D A cI cJ) {aR : Nat → Nat} {aL : Nat → Nat} {reach_R : (Nat → Int64)} {steps_R : (Nat → Int32)} {told_R : (Nat → Int32)} {length_R : Int32} {netOf_L : (Nat → Int32)} {left_L : (Nat → Int32)} {right_L : (Nat → Int32)} {trackOf_L : (Nat → Int32)} {touched_L : (Nat → Int32)} {below_L : (Nat → Int64)} {byLeft_L : (Nat → Int32)} {size_L : Int32} {tracks_L : Int32} {n8 : Nat} {s9 : Int32} {o8 : (Unit ⊕ Int32)} (h : lp (f_X2_lowestInRing_B7 reach_R size_L) n8 s9 = some o8) (hk : (Sum.elim (fun r8 => V p l e (rmO 2 63) s m args below meth c 3 D A 0 0 Q 36 [] [] (wRL cI cJ aR aL reach_R steps_R told_R length_R netOf_L left_L right_L trackOf_L touched_L below_L byLeft_L size_L tracks_L)) (fun r8 => V p l e (rmO 2 63) s m args below meth c 3 D A 0 0 Q 28 [(2, .int r8)] [] (wRL cI cJ aR aL reach_R steps_R told_R length_R netOf_L left_L right_L trackOf_L touched_L below_L byLeft_L size_L tracks_L))) o8) : V p l e (rmO 2 63) s m args below meth c 3 D A 0 0 Q 7 [(0, .ref (aR 0)), (1, .ref (aL 0)), (2, .int s9)] [] (wRL cI cJ aR aL reach_R steps_R told_R length_R netOf_L left_L right_L trackOf_L touched_L below_L byLeft_L size_L tracks_L) := lp_ok (Pσ := fun s8 => V p l e (rmO 2 63) s m args below meth c 3 D A 0 0 Q 7 [(0, .ref (aR 0)), (1, .ref (aL 0)), (2, .int s8)] [] (wRL cI cJ aR aL reach_R steps_R told_R length_R netOf_L left_L right_L trackOf_L touched_L below_L byLeft_L size_L tracks_L)) (Pρ := Sum.elim (fun r8 => V p l e (rmO 2 63) s m args below meth c 3 D A 0 0 Q 36 [] [] (wRL cI cJ aR aL reach_R steps_R told_R length_R netOf_L left_L right_L trackOf_L touched_L below_L byLeft_L size_L tracks_L)) (fun r8 => V p l e (rmO 2 63) s m args below meth c 3 D A 0 0 Q 28 [(2, .int r8)] [] (wRL cI cJ aR aL reach_R steps_R told_R length_R netOf_L left_L right_L trackOf_L touched_L below_L byLeft_L size_L tracks_L))) (fun s o h hl hx => t_X2_lowestInRing_B7 C s o h hl (fun r e => hx _ e) (fun r e => hx _ e)) n8 s9 o8 h hk
set_option maxHeartbeats 4000000 in
set_option maxRecDepth 100000 in
theorem c_X2_lowestInRing (l : Launch) (D : va_G) (cI cJ : ClassId) (aR : Nat → Nat) (aL : Nat → Nat) (reach_R : (Nat → Int64)) (steps_R : (Nat → Int32)) (told_R : (Nat → Int32)) (length_R : Int32) (netOf_L : (Nat → Int32)) (left_L : (Nat → Int32)) (right_L : (Nat → Int32)) (trackOf_L : (Nat → Int32)) (touched_L : (Nat → Int32)) (below_L : (Nat → Int64)) (byLeft_L : (Nat → Int32)) (size_L : Int32) (tracks_L : Int32) (r : Int32) (reach_R' : (Nat → Int64)) (h : f_X2_lowestInRing reach_R below_L size_L = some (r, reach_R')) : Cti l D cI cJ yX2_lowestInRing cX2_lowestInRing 3 (some .int) 2 63 [.ref (aR 0), .ref (aL 0)] (wRL cI cJ aR aL reach_R steps_R told_R length_R netOf_L left_L right_L trackOf_L touched_L below_L byLeft_L size_L tracks_L) (wRL cI cJ aR aL reach_R' steps_R told_R length_R netOf_L left_L right_L trackOf_L touched_L below_L byLeft_L size_L tracks_L) r := by
  refine mk_i [(0, .ref (aR 0)), (1, .ref (aL 0))] (by decide) rfl (Nat.le_of_ble_eq_true rfl) rfl (fun p e s m args below meth c A Q C hk => ?_)
  unfold f_X2_lowestInRing at h
  refine v_aload_n C 0 dX2_lowestInRing_0 rfl rfl ?_
  refine v_aload_n C 1 dX2_lowestInRing_1 rfl rfl ?_
  obtain ⟨r, h1, h⟩ := bind_el h
  obtain ⟨reach_R_1, rfl⟩ : ∃ z, z = r := ⟨_, rfl⟩
  try dsimp only at h
  refine v_callVv (As := [.ref (aL 0)]) (st := []) (wr := []) (w1 := (wRL cI cJ aR aL reach_R_1 steps_R told_R length_R netOf_L left_L right_L trackOf_L touched_L below_L byLeft_L size_L tracks_L)) (ws' := (wRL cI cJ aR aL reach_R_1 steps_R told_R length_R netOf_L left_L right_L trackOf_L touched_L below_L byLeft_L size_L tracks_L)) (isC := [0, 1, 2, 3, 4, 5, 6, 7, 8, 9, 10, 11]) (isR := []) (pm := [0, 1, 2, 3, 4, 5, 6, 7, 8, 9, 10, 11]) C (c_X2_findReach l D cI cJ aR aL reach_R steps_R told_R length_R netOf_L left_L right_L trackOf_L touched_L below_L byLeft_L size_L tracks_L reach_R_1 h1) cw_X2_findReach 0 rfl rfl m2_126 dX2_lowestInRing_2 rfl ⟨Nat.le_of_ble_eq_true rfl, Nat.le_of_ble_eq_true rfl⟩ (Nat.le_of_ble_eq_true rfl) ⟨Nat.le_refl 0, Nat.le_refl 0⟩ ⟨rfl, rfl, rfl, rfl, by decide, rfl, rfl⟩ ?_
  refine v_iconst (v := 0) C dX2_lowestInRing_5 (by decide) ?_
  refine v_istore_n C [(2, .int 0), (0, .ref (aR 0)), (1, .ref (aL 0))] dX2_lowestInRing_6 rfl (by decide) rfl ?_
  obtain ⟨r, h1, h⟩ := bind_el h
  refine v_perm [1, 2, 0] rfl ?_
  rcases r with _ | ⟨x2_3⟩
  · refine t_X2_lowestInRing_L7 C (s9 := 0) h1 ?_
    show V p l e (rmO 2 63) s m args below meth c 3 D A 0 0 Q 36 [] [] (wRL cI cJ aR aL reach_R_1 steps_R told_R length_R netOf_L left_L right_L trackOf_L touched_L below_L byLeft_L size_L tracks_L)
    try dsimp only at h
    refine v_iconst (v := (-1)) C dX2_lowestInRing_36 (by decide) ?_
    cases h
    exact hk _ _ dX2_lowestInRing_37
  · refine t_X2_lowestInRing_L7 C (s9 := 0) h1 ?_
    show V p l e (rmO 2 63) s m args below meth c 3 D A 0 0 Q 28 [(2, .int x2_3)] [] (wRL cI cJ aR aL reach_R_1 steps_R told_R length_R netOf_L left_L right_L trackOf_L touched_L below_L byLeft_L size_L tracks_L)
    try dsimp only at h
    refine v_iload_n C 0 dX2_lowestInRing_28 rfl rfl ?_
    cases h
    exact hk _ _ dX2_lowestInRing_29
def f_X2_countStepsTo_B37 (x5 : Int32) (x6 : Int64) (below_L : (Nat → Int64)) (size_L : Int32) : (Int64 × Int32 × (Nat → Int32)) → Option ((Int64 × Int32 × (Nat → Int32)) ⊕ (Int64 × (Nat → Int32)))
  | (x3, x8, steps_R) => if size_L ≤ x8 then (some (.inr (x3, steps_R))) else (bnd x8 38 (if (steps_R x8.toNatClampNeg) = (-1) then (bnd x8 38 (if (lg_cmp ((below_L x8.toNatClampNeg) &&& x6) 0) = 0 then (some (.inl (x3, x8 + 1, steps_R))) else (bnd x8 38 (some (.inl ((x3 ||| ((1 : Int64) <<< (x8.toInt64 &&& 63)), x8 + 1, upd steps_R x8.toNatClampNeg x5))))))) else (some (.inl (x3, x8 + 1, steps_R)))))
def f_X2_countStepsTo_B22 (below_L : (Nat → Int64)) (size_L : Int32) : (Int64 × Int32 × (Nat → Int32)) → Option ((Int64 × Int32 × (Nat → Int32)) ⊕ (Nat → Int32))
  | (x3, x5, steps_R) => if size_L ≤ x5 then (some (.inr steps_R)) else ((lp (f_X2_countStepsTo_B37 x5 x3 below_L size_L) 64 (x3, 0, steps_R)).bind (fun r => match r with | (x3_2, steps_R_3) => some (.inl (x3_2, x5 + 1, steps_R_3))))
def f_X2_countStepsTo (steps_R : (Nat → Int32)) (below_L : (Nat → Int64)) (size_L : Int32) (x2 : Int32) : Option (Nat → Int32) := (f_J7_fill_53178 steps_R (-1)).bind (fun r => match r with | steps_R_1 => bnd x2 38 ((lp (f_X2_countStepsTo_B22 below_L size_L) 64 (((1 : Int64) <<< (x2.toInt64 &&& 63), 1, upd steps_R_1 x2.toNatClampNeg 0))).bind (fun r => match r with | steps_R_4 => some steps_R_4)))
theorem cw_X2_countStepsTo : CWv yX2_countStepsTo cX2_countStepsTo 9 none RX2 2 := ⟨m2_145, ms2_12, m1_3, m2_146, rfl, by decide, by decide, by decide +kernel⟩
set_option maxHeartbeats 4000000 in
set_option maxRecDepth 100000 in
theorem t_X2_countStepsTo_B37 {p : Program} {l : Launch} {e : Env} {s : State} {m : MethodId} {args : Array Value} {below : List Frame} {meth : Method} {c : Code} {D : va_G} {A : Nat → Prop} {cI cJ : ClassId} {Q : State → Prop} (C : Cx p s m args c cX2_countStepsTo 9 RX2 D A cI cJ) {aR : Nat → Nat} {aL : Nat → Nat} {x5 : Int32} {x6 : Int64} {reach_R : (Nat → Int64)} {told_R : (Nat → Int32)} {length_R : Int32} {netOf_L : (Nat → Int32)} {left_L : (Nat → Int32)} {right_L : (Nat → Int32)} {trackOf_L : (Nat → Int32)} {touched_L : (Nat → Int32)} {below_L : (Nat → Int64)} {byLeft_L : (Nat → Int32)} {size_L : Int32} {tracks_L : Int32} (s8 : (Int64 × Int32 × (Nat → Int32))) (o8 : (Int64 × Int32 × (Nat → Int32)) ⊕ (Int64 × (Nat → Int32))) (h : f_X2_countStepsTo_B37 x5 x6 below_L size_L s8 = some o8) (hl : ∀ s8, o8 = .inl s8 → V p l e (rmO 1 23) s m args below meth c 9 D A 0 0 Q 37 [(0, .ref (aR 0)), (1, .ref (aL 0)), (3, .long s8.1), (5, .int x5), (6, .long x6), (8, .int s8.2.1)] [] (wRL cI cJ aR aL reach_R s8.2.2 told_R length_R netOf_L left_L right_L trackOf_L touched_L below_L byLeft_L size_L tracks_L)) (hx : ∀ r8, o8 = .inr r8 → V p l e (rmO 1 23) s m args below meth c 9 D A 0 0 Q 94 [(0, .ref (aR 0)), (1, .ref (aL 0)), (3, .long r8.1), (5, .int x5)] [] (wRL cI cJ aR aL reach_R r8.2 told_R length_R netOf_L left_L right_L trackOf_L touched_L below_L byLeft_L size_L tracks_L)) : V p l e (rmO 1 23) s m args below meth c 9 D A 0 0 Q 37 [(0, .ref (aR 0)), (1, .ref (aL 0)), (3, .long s8.1), (5, .int x5), (6, .long x6), (8, .int s8.2.1)] [] (wRL cI cJ aR aL reach_R s8.2.2 told_R length_R netOf_L left_L right_L trackOf_L touched_L below_L byLeft_L size_L tracks_L) := by
  obtain ⟨x3, x8, steps_R⟩ := s8
  unfold f_X2_countStepsTo_B37 at h
  show V p l e (rmO 1 23) s m args below meth c 9 D A 0 0 Q 37 [(0, .ref (aR 0)), (1, .ref (aL 0)), (3, .long x3), (5, .int x5), (6, .long x6), (8, .int x8)] [] (wRL cI cJ aR aL reach_R steps_R told_R length_R netOf_L left_L right_L trackOf_L touched_L below_L byLeft_L size_L tracks_L)
  refine v_iload C 5 dX2_countStepsTo_37 rfl ?_
  refine v_aload_n C 1 dX2_countStepsTo_39 rfl rfl ?_
  refine v_getN C 4 7 iuX1 rfl rfl (by decide) nw_12 rfl rfl dX2_countStepsTo_40 ?_
  refine v_icmp_ge (tgt := 94) C dX2_countStepsTo_43 (by decide) h (fun h => ?_) (fun h => ?_)
  · refine v_perm [0, 1, 2, 3] rfl ?_
    cases h
    exact hx _ rfl
  · refine v_aload_n C 0 dX2_countStepsTo_46 rfl rfl ?_
    refine v_get C 0 1 iuX2 rfl rfl (by decide) m1_49 rfl rfl dX2_countStepsTo_47 ?_
    refine v_iload C 5 dX2_countStepsTo_50 rfl ?_
    refine v_iald C 2 rfl dX2_countStepsTo_52 h (fun h => ?_)
    refine v_iconst (v := (-1)) C dX2_countStepsTo_53 (by decide) ?_
    refine v_icmp_ne (tgt := 88) C dX2_countStepsTo_54 (by decide) h (fun h => ?_) (fun h => ?_)
    · refine v_aload_n C 1 dX2_countStepsTo_57 rfl rfl ?_
      refine v_getN C 4 5 iuX1 rfl rfl (by decide) nw_11 rfl rfl dX2_countStepsTo_58 ?_
      refine v_iload C 5 dX2_countStepsTo_61 rfl ?_
      refine v_lald C 10 rfl dX2_countStepsTo_63 h (fun h => ?_)
      refine v_lload C 4 dX2_countStepsTo_64 rfl ?_
      refine v_land C dX2_countStepsTo_66 ?_
      refine v_lconst (v := 0) C dX2_countStepsTo_67 (by decide) ?_
      refine v_lcmp C dX2_countStepsTo_68 ?_
      refine v_if_eq (tgt := 88) C dX2_countStepsTo_69 (by decide) h (fun h => ?_) (fun h => ?_)
      · refine v_iinc C [(8, .int (x8 + 1)), (0, .ref (aR 0)), (1, .ref (aL 0)), (3, .long x3), (5, .int x5), (6, .long x6)] 5 dX2_countStepsTo_88 rfl rfl (by decide) rfl ?_
        refine v_goto (tgt := 37) C dX2_countStepsTo_91 (by decide) ?_
        refine v_perm [1, 2, 3, 4, 5, 0] rfl ?_
        cases h
        exact hl _ rfl
      · refine v_aload_n C 0 dX2_countStepsTo_72 rfl rfl ?_
        refine v_get C 0 1 iuX2 rfl rfl (by decide) m1_49 rfl rfl dX2_countStepsTo_73 ?_
        refine v_iload C 5 dX2_countStepsTo_76 rfl ?_
        refine v_iload C 3 dX2_countStepsTo_78 rfl ?_
        refine v_iast C (wRL cI cJ aR aL reach_R (upd steps_R x8.toNatClampNeg x5) told_R length_R netOf_L left_L right_L trackOf_L touched_L below_L byLeft_L size_L tracks_L) 2 rfl dX2_countStepsTo_80 h rfl (fun h => ?_)
        refine v_lload_n C 2 dX2_countStepsTo_81 rfl rfl ?_
        refine v_lconst (v := 1) C dX2_countStepsTo_82 (by decide) ?_
        refine v_iload C 5 dX2_countStepsTo_83 rfl ?_
        refine v_lshl C dX2_countStepsTo_85 ?_
        refine v_lor C dX2_countStepsTo_86 ?_
        refine v_lstore_n C [(3, .long (x3 ||| ((1 : Int64) <<< (x8.toInt64 &&& 63)))), (0, .ref (aR 0)), (1, .ref (aL 0)), (5, .int x5), (6, .long x6), (8, .int x8)] dX2_countStepsTo_87 rfl (by decide) rfl ?_
        refine v_iinc C [(8, .int (x8 + 1)), (3, .long (x3 ||| ((1 : Int64) <<< (x8.toInt64 &&& 63)))), (0, .ref (aR 0)), (1, .ref (aL 0)), (5, .int x5), (6, .long x6)] 5 dX2_countStepsTo_88 rfl rfl (by decide) rfl ?_
        refine v_goto (tgt := 37) C dX2_countStepsTo_91 (by decide) ?_
        refine v_perm [2, 3, 1, 4, 5, 0] rfl ?_
        cases h
        exact hl _ rfl
    · refine v_iinc C [(8, .int (x8 + 1)), (0, .ref (aR 0)), (1, .ref (aL 0)), (3, .long x3), (5, .int x5), (6, .long x6)] 5 dX2_countStepsTo_88 rfl rfl (by decide) rfl ?_
      refine v_goto (tgt := 37) C dX2_countStepsTo_91 (by decide) ?_
      refine v_perm [1, 2, 3, 4, 5, 0] rfl ?_
      cases h
      exact hl _ rfl
set_option maxHeartbeats 4000000 in
set_option maxRecDepth 100000 in
theorem t_X2_countStepsTo_L37 {p : Program} {l : Launch} {e : Env} {s : State} {m : MethodId} {args : Array Value} {below : List Frame} {meth : Method} {c : Code} {D : va_G} {A : Nat → Prop} {cI cJ : ClassId} {Q : State → Prop} (C : Cx p s m args c cX2_countStepsTo 9 RX2 D A cI cJ) {aR : Nat → Nat} {aL : Nat → Nat} {x5 : Int32} {x6 : Int64} {reach_R : (Nat → Int64)} {told_R : (Nat → Int32)} {length_R : Int32} {netOf_L : (Nat → Int32)} {left_L : (Nat → Int32)} {right_L : (Nat → Int32)} {trackOf_L : (Nat → Int32)} {touched_L : (Nat → Int32)} {below_L : (Nat → Int64)} {byLeft_L : (Nat → Int32)} {size_L : Int32} {tracks_L : Int32} {n8 : Nat} {s9 : (Int64 × Int32 × (Nat → Int32))} {o8 : (Int64 × (Nat → Int32))} (h : lp (f_X2_countStepsTo_B37 x5 x6 below_L size_L) n8 s9 = some o8) (hk : V p l e (rmO 1 23) s m args below meth c 9 D A 0 0 Q 94 [(0, .ref (aR 0)), (1, .ref (aL 0)), (3, .long o8.1), (5, .int x5)] [] (wRL cI cJ aR aL reach_R o8.2 told_R length_R netOf_L left_L right_L trackOf_L touched_L below_L byLeft_L size_L tracks_L)) : V p l e (rmO 1 23) s m args below meth c 9 D A 0 0 Q 37 [(0, .ref (aR 0)), (1, .ref (aL 0)), (3, .long s9.1), (5, .int x5), (6, .long x6), (8, .int s9.2.1)] [] (wRL cI cJ aR aL reach_R s9.2.2 told_R length_R netOf_L left_L right_L trackOf_L touched_L below_L byLeft_L size_L tracks_L) := lp_ok (Pσ := fun s8 => V p l e (rmO 1 23) s m args below meth c 9 D A 0 0 Q 37 [(0, .ref (aR 0)), (1, .ref (aL 0)), (3, .long s8.1), (5, .int x5), (6, .long x6), (8, .int s8.2.1)] [] (wRL cI cJ aR aL reach_R s8.2.2 told_R length_R netOf_L left_L right_L trackOf_L touched_L below_L byLeft_L size_L tracks_L)) (Pρ := fun r8 => V p l e (rmO 1 23) s m args below meth c 9 D A 0 0 Q 94 [(0, .ref (aR 0)), (1, .ref (aL 0)), (3, .long r8.1), (5, .int x5)] [] (wRL cI cJ aR aL reach_R r8.2 told_R length_R netOf_L left_L right_L trackOf_L touched_L below_L byLeft_L size_L tracks_L)) (fun s o h hl hx => t_X2_countStepsTo_B37 C s o h hl hx) n8 s9 o8 h hk
set_option maxHeartbeats 4000000 in
set_option maxRecDepth 100000 in
theorem t_X2_countStepsTo_B22 {p : Program} {l : Launch} {e : Env} {s : State} {m : MethodId} {args : Array Value} {below : List Frame} {meth : Method} {c : Code} {D : va_G} {A : Nat → Prop} {cI cJ : ClassId} {Q : State → Prop} (C : Cx p s m args c cX2_countStepsTo 9 RX2 D A cI cJ) {aR : Nat → Nat} {aL : Nat → Nat} {reach_R : (Nat → Int64)} {told_R : (Nat → Int32)} {length_R : Int32} {netOf_L : (Nat → Int32)} {left_L : (Nat → Int32)} {right_L : (Nat → Int32)} {trackOf_L : (Nat → Int32)} {touched_L : (Nat → Int32)} {below_L : (Nat → Int64)} {byLeft_L : (Nat → Int32)} {size_L : Int32} {tracks_L : Int32} (s8 : (Int64 × Int32 × (Nat → Int32))) (o8 : (Int64 × Int32 × (Nat → Int32)) ⊕ (Nat → Int32)) (h : f_X2_countStepsTo_B22 below_L size_L s8 = some o8) (hl : ∀ s8, o8 = .inl s8 → V p l e (rmO 1 23) s m args below meth c 9 D A 0 0 Q 22 [(0, .ref (aR 0)), (1, .ref (aL 0)), (3, .long s8.1), (5, .int s8.2.1)] [] (wRL cI cJ aR aL reach_R s8.2.2 told_R length_R netOf_L left_L right_L trackOf_L touched_L below_L byLeft_L size_L tracks_L)) (hx : ∀ r8, o8 = .inr r8 → V p l e (rmO 1 23) s m args below meth c 9 D A 0 0 Q 100 [] [] (wRL cI cJ aR aL reach_R r8 told_R length_R netOf_L left_L right_L trackOf_L touched_L below_L byLeft_L size_L tracks_L)) : V p l e (rmO 1 23) s m args below meth c 9 D A 0 0 Q 22 [(0, .ref (aR 0)), (1, .ref (aL 0)), (3, .long s8.1), (5, .int s8.2.1)] [] (wRL cI cJ aR aL reach_R s8.2.2 told_R length_R netOf_L left_L right_L trackOf_L touched_L below_L byLeft_L size_L tracks_L) := by
  obtain ⟨x3, x5, steps_R⟩ := s8
  unfold f_X2_countStepsTo_B22 at h
  show V p l e (rmO 1 23) s m args below meth c 9 D A 0 0 Q 22 [(0, .ref (aR 0)), (1, .ref (aL 0)), (3, .long x3), (5, .int x5)] [] (wRL cI cJ aR aL reach_R steps_R told_R length_R netOf_L left_L right_L trackOf_L touched_L below_L byLeft_L size_L tracks_L)
  refine v_iload C 3 dX2_countStepsTo_22 rfl ?_
  refine v_aload_n C 1 dX2_countStepsTo_24 rfl rfl ?_
  refine v_getN C 4 7 iuX1 rfl rfl (by decide) nw_12 rfl rfl dX2_countStepsTo_25 ?_
  refine v_icmp_ge (tgt := 100) C dX2_countStepsTo_28 (by decide) h (fun h => ?_) (fun h => ?_)
  · refine v_perm [] rfl ?_
    cases h
    exact hx _ rfl
  · refine v_lload_n C 2 dX2_countStepsTo_31 rfl rfl ?_
    refine v_lstore C [(6, .long x3), (0, .ref (aR 0)), (1, .ref (aL 0)), (3, .long x3), (5, .int x5)] dX2_countStepsTo_32 (by decide) rfl ?_
    refine v_iconst (v := 0) C dX2_countStepsTo_34 (by decide) ?_
    refine v_istore C [(8, .int 0), (6, .long x3), (0, .ref (aR 0)), (1, .ref (aL 0)), (3, .long x3), (5, .int x5)] dX2_countStepsTo_35 (by decide) rfl ?_
    obtain ⟨r, h1, h⟩ := bind_el h
    refine v_perm [2, 3, 4, 5, 1, 0] rfl ?_
    obtain ⟨x3_2, steps_R_3⟩ := r
    refine t_X2_countStepsTo_L37 C (s9 := (x3, 0, steps_R)) h1 ?_
    show V p l e (rmO 1 23) s m args below meth c 9 D A 0 0 Q 94 [(0, .ref (aR 0)), (1, .ref (aL 0)), (3, .long x3_2), (5, .int x5)] [] (wRL cI cJ aR aL reach_R steps_R_3 told_R length_R netOf_L left_L right_L trackOf_L touched_L below_L byLeft_L size_L tracks_L)
    try dsimp only at h
    refine v_iinc C [(5, .int (x5 + 1)), (0, .ref (aR 0)), (1, .ref (aL 0)), (3, .long x3_2)] 3 dX2_countStepsTo_94 rfl rfl (by decide) rfl ?_
    refine v_goto (tgt := 22) C dX2_countStepsTo_97 (by decide) ?_
    refine v_perm [1, 2, 3, 0] rfl ?_
    cases h
    exact hl _ rfl
set_option maxHeartbeats 4000000 in
set_option maxRecDepth 100000 in
theorem t_X2_countStepsTo_L22 {p : Program} {l : Launch} {e : Env} {s : State} {m : MethodId} {args : Array Value} {below : List Frame} {meth : Method} {c : Code} {D : va_G} {A : Nat → Prop} {cI cJ : ClassId} {Q : State → Prop} (C : Cx p s m args c cX2_countStepsTo 9 RX2 D A cI cJ) {aR : Nat → Nat} {aL : Nat → Nat} {reach_R : (Nat → Int64)} {told_R : (Nat → Int32)} {length_R : Int32} {netOf_L : (Nat → Int32)} {left_L : (Nat → Int32)} {right_L : (Nat → Int32)} {trackOf_L : (Nat → Int32)} {touched_L : (Nat → Int32)} {below_L : (Nat → Int64)} {byLeft_L : (Nat → Int32)} {size_L : Int32} {tracks_L : Int32} {n8 : Nat} {s9 : (Int64 × Int32 × (Nat → Int32))} {o8 : (Nat → Int32)} (h : lp (f_X2_countStepsTo_B22 below_L size_L) n8 s9 = some o8) (hk : V p l e (rmO 1 23) s m args below meth c 9 D A 0 0 Q 100 [] [] (wRL cI cJ aR aL reach_R o8 told_R length_R netOf_L left_L right_L trackOf_L touched_L below_L byLeft_L size_L tracks_L)) : V p l e (rmO 1 23) s m args below meth c 9 D A 0 0 Q 22 [(0, .ref (aR 0)), (1, .ref (aL 0)), (3, .long s9.1), (5, .int s9.2.1)] [] (wRL cI cJ aR aL reach_R s9.2.2 told_R length_R netOf_L left_L right_L trackOf_L touched_L below_L byLeft_L size_L tracks_L) := lp_ok (Pσ := fun s8 => V p l e (rmO 1 23) s m args below meth c 9 D A 0 0 Q 22 [(0, .ref (aR 0)), (1, .ref (aL 0)), (3, .long s8.1), (5, .int s8.2.1)] [] (wRL cI cJ aR aL reach_R s8.2.2 told_R length_R netOf_L left_L right_L trackOf_L touched_L below_L byLeft_L size_L tracks_L)) (Pρ := fun r8 => V p l e (rmO 1 23) s m args below meth c 9 D A 0 0 Q 100 [] [] (wRL cI cJ aR aL reach_R r8 told_R length_R netOf_L left_L right_L trackOf_L touched_L below_L byLeft_L size_L tracks_L)) (fun s o h hl hx => t_X2_countStepsTo_B22 C s o h hl hx) n8 s9 o8 h hk
set_option maxHeartbeats 4000000 in
set_option maxRecDepth 100000 in
theorem c_X2_countStepsTo (l : Launch) (D : va_G) (cI cJ : ClassId) (aR : Nat → Nat) (aL : Nat → Nat) (reach_R : (Nat → Int64)) (steps_R : (Nat → Int32)) (told_R : (Nat → Int32)) (length_R : Int32) (netOf_L : (Nat → Int32)) (left_L : (Nat → Int32)) (right_L : (Nat → Int32)) (trackOf_L : (Nat → Int32)) (touched_L : (Nat → Int32)) (below_L : (Nat → Int64)) (byLeft_L : (Nat → Int32)) (size_L : Int32) (tracks_L : Int32) (x2 : Int32) (steps_R' : (Nat → Int32)) (h : f_X2_countStepsTo steps_R below_L size_L x2 = some steps_R') : Ctv l D cI cJ yX2_countStepsTo cX2_countStepsTo 9 none 1 23 [.ref (aR 0), .ref (aL 0), .int x2] (wRL cI cJ aR aL reach_R steps_R told_R length_R netOf_L left_L right_L trackOf_L touched_L below_L byLeft_L size_L tracks_L) (wRL cI cJ aR aL reach_R steps_R' told_R length_R netOf_L left_L right_L trackOf_L touched_L below_L byLeft_L size_L tracks_L) := by
  refine mk_v [(0, .ref (aR 0)), (1, .ref (aL 0)), (2, .int x2)] (by decide) rfl (Nat.le_of_ble_eq_true rfl) rfl (fun p e s m args below meth c A Q C hk => ?_)
  unfold f_X2_countStepsTo at h
  refine v_aload_n C 0 dX2_countStepsTo_0 rfl rfl ?_
  refine v_get C 0 1 iuX2 rfl rfl (by decide) m1_49 rfl rfl dX2_countStepsTo_1 ?_
  refine v_iconst (v := (-1)) C dX2_countStepsTo_4 (by decide) ?_
  obtain ⟨r, h1, h⟩ := bind_el h
  obtain ⟨steps_R_1, rfl⟩ : ∃ z, z = r := ⟨_, rfl⟩
  try dsimp only at h
  refine v_callSv (As := [.ref (aR 2), .int (-1)]) (st := []) (wr := [(aR 0, .inr (2, [.ref (aR 1), .ref (aR 2), .ref (aR 3), .int length_R])), (aR 1, .inl (cJ, 38, .inr (.inl reach_R))), (aR 3, .inl (cI, 38, .inl told_R)), (aL 0, .inr (1, [.ref (aL 1), .ref (aL 2), .ref (aL 3), .ref (aL 4), .ref (aL 5), .ref (aL 6), .ref (aL 7), .int size_L, .int tracks_L])), (aL 1, .inl (cI, 38, .inl netOf_L)), (aL 2, .inl (cI, 38, .inl left_L)), (aL 3, .inl (cI, 38, .inl right_L)), (aL 4, .inl (cI, 38, .inl trackOf_L)), (aL 5, .inl (cI, 38, .inl touched_L)), (aL 6, .inl (cJ, 38, .inr (.inl below_L))), (aL 7, .inl (cI, 38, .inl byLeft_L))]) (w1 := (wAI cI cJ (fun _ => aR 2) steps_R_1)) (ws' := (wRL cI cJ aR aL reach_R steps_R_1 told_R length_R netOf_L left_L right_L trackOf_L touched_L below_L byLeft_L size_L tracks_L)) (isC := [2]) (isR := [0, 1, 3, 4, 5, 6, 7, 8, 9, 10, 11]) (pm := [0, 1, 11, 2, 3, 4, 5, 6, 7, 8, 9, 10]) C (c_J7_fill_53178 l D cI cJ (fun _ => aR 2) steps_R (-1) steps_R_1 h1) cw_J7_fill_53178 m2_147 dX2_countStepsTo_5 rfl ⟨Nat.le_of_ble_eq_true rfl, Nat.le_of_ble_eq_true rfl⟩ (Nat.le_of_ble_eq_true rfl) ⟨Nat.le_refl 0, Nat.le_refl 0⟩ ⟨rfl, rfl, rfl, rfl, by decide, rfl, rfl⟩ ?_
  refine v_aload_n C 0 dX2_countStepsTo_8 rfl rfl ?_
  refine v_get C 0 1 iuX2 rfl rfl (by decide) m1_49 rfl rfl dX2_countStepsTo_9 ?_
  refine v_iload_n C 2 dX2_countStepsTo_12 rfl rfl ?_
  refine v_iconst (v := 0) C dX2_countStepsTo_13 (by decide) ?_
  refine v_iast C (wRL cI cJ aR aL reach_R (upd steps_R_1 x2.toNatClampNeg 0) told_R length_R netOf_L left_L right_L trackOf_L touched_L below_L byLeft_L size_L tracks_L) 2 rfl dX2_countStepsTo_14 h rfl (fun h => ?_)
  refine v_lconst (v := 1) C dX2_countStepsTo_15 (by decide) ?_
  refine v_iload_n C 2 dX2_countStepsTo_16 rfl rfl ?_
  refine v_lshl C dX2_countStepsTo_17 ?_
  refine v_lstore_n C [(3, .long ((1 : Int64) <<< (x2.toInt64 &&& 63))), (0, .ref (aR 0)), (1, .ref (aL 0)), (2, .int x2)] dX2_countStepsTo_18 rfl (by decide) rfl ?_
  refine v_iconst (v := 1) C dX2_countStepsTo_19 (by decide) ?_
  refine v_istore C [(5, .int 1), (3, .long ((1 : Int64) <<< (x2.toInt64 &&& 63))), (0, .ref (aR 0)), (1, .ref (aL 0)), (2, .int x2)] dX2_countStepsTo_20 (by decide) rfl ?_
  obtain ⟨r, h1, h⟩ := bind_el h
  refine v_perm [2, 3, 1, 0] rfl ?_
  obtain ⟨steps_R_4, rfl⟩ : ∃ z, z = r := ⟨_, rfl⟩
  refine t_X2_countStepsTo_L22 C (s9 := ((1 : Int64) <<< (x2.toInt64 &&& 63), 1, upd steps_R_1 x2.toNatClampNeg 0)) h1 ?_
  show V p l e (rmO 1 23) s m args below meth c 9 D A 0 0 Q 100 [] [] (wRL cI cJ aR aL reach_R steps_R_4 told_R length_R netOf_L left_L right_L trackOf_L touched_L below_L byLeft_L size_L tracks_L)
  try dsimp only at h
  cases h
  exact hk _ _ dX2_countStepsTo_100
def f_X2_nearestBelow_B5 (x2 : Int32) (steps_R : (Nat → Int32)) (below_L : (Nat → Int64)) (size_L : Int32) : (Int32 × Int32) → Option ((Int32 × Int32) ⊕ Int32)
  | (x3, x4) => if size_L ≤ x4 then (some (.inr x3)) else (bnd x2 38 ((f_X1_isIn (below_L x2.toNatClampNeg) x4).bind (fun r => match r with | r_1 => if r_1 = 0 then (some (.inl (x3, x4 + 1))) else (bnd x4 38 (if (steps_R x4.toNatClampNeg) = (-1) then (some (.inl (x3, x4 + 1))) else (if x3 = (-1) then (some (.inl (x4, x4 + 1))) else (bnd x4 38 (bnd x3 38 (if (steps_R x3.toNatClampNeg) ≤ (steps_R x4.toNatClampNeg) then (some (.inl (x3, x4 + 1))) else (some (.inl (x4, x4 + 1))))))))))))
def f_X2_nearestBelow (steps_R : (Nat → Int32)) (below_L : (Nat → Int64)) (size_L : Int32) (x2 : Int32) : Option Int32 := (lp (f_X2_nearestBelow_B5 x2 steps_R below_L size_L) 64 (((-1), 0))).bind (fun r => match r with | x3_2 => some x3_2)
theorem cw_X2_nearestBelow : CWv yX2_nearestBelow cX2_nearestBelow 5 (some .int) RX2 2 := ⟨m2_152, ms2_13, m1_3, m2_153, rfl, by decide, by decide, by decide +kernel⟩
set_option maxHeartbeats 4000000 in
set_option maxRecDepth 100000 in
theorem t_X2_nearestBelow_B5 {p : Program} {l : Launch} {e : Env} {s : State} {m : MethodId} {args : Array Value} {below : List Frame} {meth : Method} {c : Code} {D : va_G} {A : Nat → Prop} {cI cJ : ClassId} {Q : State → Prop} (C : Cx p s m args c cX2_nearestBelow 5 RX2 D A cI cJ) {aR : Nat → Nat} {aL : Nat → Nat} {x2 : Int32} {reach_R : (Nat → Int64)} {steps_R : (Nat → Int32)} {told_R : (Nat → Int32)} {length_R : Int32} {netOf_L : (Nat → Int32)} {left_L : (Nat → Int32)} {right_L : (Nat → Int32)} {trackOf_L : (Nat → Int32)} {touched_L : (Nat → Int32)} {below_L : (Nat → Int64)} {byLeft_L : (Nat → Int32)} {size_L : Int32} {tracks_L : Int32} (s8 : (Int32 × Int32)) (o8 : (Int32 × Int32) ⊕ Int32) (h : f_X2_nearestBelow_B5 x2 steps_R below_L size_L s8 = some o8) (hl : ∀ s8, o8 = .inl s8 → V p l e (rmO 1 22) s m args below meth c 5 D A 0 0 Q 5 [(0, .ref (aR 0)), (1, .ref (aL 0)), (2, .int x2), (3, .int s8.1), (4, .int s8.2)] [] (wRL cI cJ aR aL reach_R steps_R told_R length_R netOf_L left_L right_L trackOf_L touched_L below_L byLeft_L size_L tracks_L)) (hx : ∀ r8, o8 = .inr r8 → V p l e (rmO 1 22) s m args below meth c 5 D A 0 0 Q 69 [(3, .int r8)] [] (wRL cI cJ aR aL reach_R steps_R told_R length_R netOf_L left_L right_L trackOf_L touched_L below_L byLeft_L size_L tracks_L)) : V p l e (rmO 1 22) s m args below meth c 5 D A 0 0 Q 5 [(0, .ref (aR 0)), (1, .ref (aL 0)), (2, .int x2), (3, .int s8.1), (4, .int s8.2)] [] (wRL cI cJ aR aL reach_R steps_R told_R length_R netOf_L left_L right_L trackOf_L touched_L below_L byLeft_L size_L tracks_L) := by
  obtain ⟨x3, x4⟩ := s8
  unfold f_X2_nearestBelow_B5 at h
  show V p l e (rmO 1 22) s m args below meth c 5 D A 0 0 Q 5 [(0, .ref (aR 0)), (1, .ref (aL 0)), (2, .int x2), (3, .int x3), (4, .int x4)] [] (wRL cI cJ aR aL reach_R steps_R told_R length_R netOf_L left_L right_L trackOf_L touched_L below_L byLeft_L size_L tracks_L)
  refine v_iload C 4 dX2_nearestBelow_5 rfl ?_
  refine v_aload_n C 1 dX2_nearestBelow_7 rfl rfl ?_
  refine v_getN C 4 7 iuX1 rfl rfl (by decide) nw_12 rfl rfl dX2_nearestBelow_8 ?_
  refine v_icmp_ge (tgt := 69) C dX2_nearestBelow_11 (by decide) h (fun h => ?_) (fun h => ?_)
  · refine v_perm [3] rfl ?_
    cases h
    exact hx _ rfl
  · refine v_aload_n C 1 dX2_nearestBelow_14 rfl rfl ?_
    refine v_getN C 4 5 iuX1 rfl rfl (by decide) nw_11 rfl rfl dX2_nearestBelow_15 ?_
    refine v_iload_n C 2 dX2_nearestBelow_18 rfl rfl ?_
    refine v_lald C 10 rfl dX2_nearestBelow_19 h (fun h => ?_)
    refine v_iload C 4 dX2_nearestBelow_20 rfl ?_
    obtain ⟨r, h1, h⟩ := bind_el h
    obtain ⟨r_1, rfl⟩ : ∃ z, z = r := ⟨_, rfl⟩
    try dsimp only at h
    refine v_callSNi (As := [.long (below_L x2.toNatClampNeg), .int x4]) (st := []) (wr := [(aR 0, .inr (2, [.ref (aR 1), .ref (aR 2), .ref (aR 3), .int length_R])), (aR 1, .inl (cJ, 38, .inr (.inl reach_R))), (aR 2, .inl (cI, 38, .inl steps_R)), (aR 3, .inl (cI, 38, .inl told_R)), (aL 0, .inr (1, [.ref (aL 1), .ref (aL 2), .ref (aL 3), .ref (aL 4), .ref (aL 5), .ref (aL 6), .ref (aL 7), .int size_L, .int tracks_L])), (aL 1, .inl (cI, 38, .inl netOf_L)), (aL 2, .inl (cI, 38, .inl left_L)), (aL 3, .inl (cI, 38, .inl right_L)), (aL 4, .inl (cI, 38, .inl trackOf_L)), (aL 5, .inl (cI, 38, .inl touched_L)), (aL 6, .inl (cJ, 38, .inr (.inl below_L))), (aL 7, .inl (cI, 38, .inl byLeft_L))]) (w1 := []) (ws' := (wRL cI cJ aR aL reach_R steps_R told_R length_R netOf_L left_L right_L trackOf_L touched_L below_L byLeft_L size_L tracks_L)) (isC := []) (isR := [0, 1, 2, 3, 4, 5, 6, 7, 8, 9, 10, 11]) (pm := [0, 1, 2, 3, 4, 5, 6, 7, 8, 9, 10, 11]) C (c_X1_isIn l D cI cJ (below_L x2.toNatClampNeg) x4 r_1 h1) cw_X1_isIn nw_28 dX2_nearestBelow_22 rfl ⟨Nat.le_of_ble_eq_true rfl, Nat.le_of_ble_eq_true rfl⟩ (Nat.le_of_ble_eq_true rfl) ⟨Nat.le_refl 0, Nat.le_refl 0⟩ ⟨rfl, rfl, rfl, rfl, by decide, rfl, rfl⟩ ?_
    refine v_if_eq (tgt := 63) C dX2_nearestBelow_25 (by decide) h (fun h => ?_) (fun h => ?_)
    · refine v_iinc C [(4, .int (x4 + 1)), (0, .ref (aR 0)), (1, .ref (aL 0)), (2, .int x2), (3, .int x3)] 4 dX2_nearestBelow_63 rfl rfl (by decide) rfl ?_
      refine v_goto (tgt := 5) C dX2_nearestBelow_66 (by decide) ?_
      refine v_perm [1, 2, 3, 4, 0] rfl ?_
      cases h
      exact hl _ rfl
    · refine v_aload_n C 0 dX2_nearestBelow_28 rfl rfl ?_
      refine v_get C 0 1 iuX2 rfl rfl (by decide) m1_49 rfl rfl dX2_nearestBelow_29 ?_
      refine v_iload C 4 dX2_nearestBelow_32 rfl ?_
      refine v_iald C 2 rfl dX2_nearestBelow_34 h (fun h => ?_)
      refine v_iconst (v := (-1)) C dX2_nearestBelow_35 (by decide) ?_
      refine v_icmp_eq (tgt := 63) C dX2_nearestBelow_36 (by decide) h (fun h => ?_) (fun h => ?_)
      · refine v_iinc C [(4, .int (x4 + 1)), (0, .ref (aR 0)), (1, .ref (aL 0)), (2, .int x2), (3, .int x3)] 4 dX2_nearestBelow_63 rfl rfl (by decide) rfl ?_
        refine v_goto (tgt := 5) C dX2_nearestBelow_66 (by decide) ?_
        refine v_perm [1, 2, 3, 4, 0] rfl ?_
        cases h
        exact hl _ rfl
      · refine v_iload_n C 3 dX2_nearestBelow_39 rfl rfl ?_
        refine v_iconst (v := (-1)) C dX2_nearestBelow_40 (by decide) ?_
        refine v_icmp_eq (tgt := 60) C dX2_nearestBelow_41 (by decide) h (fun h => ?_) (fun h => ?_)
        · refine v_iload C 4 dX2_nearestBelow_60 rfl ?_
          refine v_istore_n C [(3, .int x4), (0, .ref (aR 0)), (1, .ref (aL 0)), (2, .int x2), (4, .int x4)] dX2_nearestBelow_62 rfl (by decide) rfl ?_
          refine v_iinc C [(4, .int (x4 + 1)), (3, .int x4), (0, .ref (aR 0)), (1, .ref (aL 0)), (2, .int x2)] 4 dX2_nearestBelow_63 rfl rfl (by decide) rfl ?_
          refine v_goto (tgt := 5) C dX2_nearestBelow_66 (by decide) ?_
          refine v_perm [2, 3, 4, 1, 0] rfl ?_
          cases h
          exact hl _ rfl
        · refine v_aload_n C 0 dX2_nearestBelow_44 rfl rfl ?_
          refine v_get C 0 1 iuX2 rfl rfl (by decide) m1_49 rfl rfl dX2_nearestBelow_45 ?_
          refine v_iload C 4 dX2_nearestBelow_48 rfl ?_
          refine v_iald C 2 rfl dX2_nearestBelow_50 h (fun h => ?_)
          refine v_aload_n C 0 dX2_nearestBelow_51 rfl rfl ?_
          refine v_get C 0 1 iuX2 rfl rfl (by decide) m1_49 rfl rfl dX2_nearestBelow_52 ?_
          refine v_iload_n C 3 dX2_nearestBelow_55 rfl rfl ?_
          refine v_iald C 2 rfl dX2_nearestBelow_56 h (fun h => ?_)
          refine v_icmp_ge (tgt := 63) C dX2_nearestBelow_57 (by decide) h (fun h => ?_) (fun h => ?_)
          · refine v_iinc C [(4, .int (x4 + 1)), (0, .ref (aR 0)), (1, .ref (aL 0)), (2, .int x2), (3, .int x3)] 4 dX2_nearestBelow_63 rfl rfl (by decide) rfl ?_
            refine v_goto (tgt := 5) C dX2_nearestBelow_66 (by decide) ?_
            refine v_perm [1, 2, 3, 4, 0] rfl ?_
            cases h
            exact hl _ rfl
          · refine v_iload C 4 dX2_nearestBelow_60 rfl ?_
            refine v_istore_n C [(3, .int x4), (0, .ref (aR 0)), (1, .ref (aL 0)), (2, .int x2), (4, .int x4)] dX2_nearestBelow_62 rfl (by decide) rfl ?_
            refine v_iinc C [(4, .int (x4 + 1)), (3, .int x4), (0, .ref (aR 0)), (1, .ref (aL 0)), (2, .int x2)] 4 dX2_nearestBelow_63 rfl rfl (by decide) rfl ?_
            refine v_goto (tgt := 5) C dX2_nearestBelow_66 (by decide) ?_
            refine v_perm [2, 3, 4, 1, 0] rfl ?_
            cases h
            exact hl _ rfl
set_option maxHeartbeats 4000000 in
set_option maxRecDepth 100000 in
theorem t_X2_nearestBelow_L5 {p : Program} {l : Launch} {e : Env} {s : State} {m : MethodId} {args : Array Value} {below : List Frame} {meth : Method} {c : Code} {D : va_G} {A : Nat → Prop} {cI cJ : ClassId} {Q : State → Prop} (C : Cx p s m args c cX2_nearestBelow 5 RX2 D A cI cJ) {aR : Nat → Nat} {aL : Nat → Nat} {x2 : Int32} {reach_R : (Nat → Int64)} {steps_R : (Nat → Int32)} {told_R : (Nat → Int32)} {length_R : Int32} {netOf_L : (Nat → Int32)} {left_L : (Nat → Int32)} {right_L : (Nat → Int32)} {trackOf_L : (Nat → Int32)} {touched_L : (Nat → Int32)} {below_L : (Nat → Int64)} {byLeft_L : (Nat → Int32)} {size_L : Int32} {tracks_L : Int32} {n8 : Nat} {s9 : (Int32 × Int32)} {o8 : Int32} (h : lp (f_X2_nearestBelow_B5 x2 steps_R below_L size_L) n8 s9 = some o8) (hk : V p l e (rmO 1 22) s m args below meth c 5 D A 0 0 Q 69 [(3, .int o8)] [] (wRL cI cJ aR aL reach_R steps_R told_R length_R netOf_L left_L right_L trackOf_L touched_L below_L byLeft_L size_L tracks_L)) : V p l e (rmO 1 22) s m args below meth c 5 D A 0 0 Q 5 [(0, .ref (aR 0)), (1, .ref (aL 0)), (2, .int x2), (3, .int s9.1), (4, .int s9.2)] [] (wRL cI cJ aR aL reach_R steps_R told_R length_R netOf_L left_L right_L trackOf_L touched_L below_L byLeft_L size_L tracks_L) := lp_ok (Pσ := fun s8 => V p l e (rmO 1 22) s m args below meth c 5 D A 0 0 Q 5 [(0, .ref (aR 0)), (1, .ref (aL 0)), (2, .int x2), (3, .int s8.1), (4, .int s8.2)] [] (wRL cI cJ aR aL reach_R steps_R told_R length_R netOf_L left_L right_L trackOf_L touched_L below_L byLeft_L size_L tracks_L)) (Pρ := fun r8 => V p l e (rmO 1 22) s m args below meth c 5 D A 0 0 Q 69 [(3, .int r8)] [] (wRL cI cJ aR aL reach_R steps_R told_R length_R netOf_L left_L right_L trackOf_L touched_L below_L byLeft_L size_L tracks_L)) (fun s o h hl hx => t_X2_nearestBelow_B5 C s o h hl hx) n8 s9 o8 h hk
set_option maxHeartbeats 4000000 in
set_option maxRecDepth 100000 in
theorem c_X2_nearestBelow (l : Launch) (D : va_G) (cI cJ : ClassId) (aR : Nat → Nat) (aL : Nat → Nat) (reach_R : (Nat → Int64)) (steps_R : (Nat → Int32)) (told_R : (Nat → Int32)) (length_R : Int32) (netOf_L : (Nat → Int32)) (left_L : (Nat → Int32)) (right_L : (Nat → Int32)) (trackOf_L : (Nat → Int32)) (touched_L : (Nat → Int32)) (below_L : (Nat → Int64)) (byLeft_L : (Nat → Int32)) (size_L : Int32) (tracks_L : Int32) (x2 : Int32) (r : Int32) (h : f_X2_nearestBelow steps_R below_L size_L x2 = some r) : Cti l D cI cJ yX2_nearestBelow cX2_nearestBelow 5 (some .int) 1 22 [.ref (aR 0), .ref (aL 0), .int x2] (wRL cI cJ aR aL reach_R steps_R told_R length_R netOf_L left_L right_L trackOf_L touched_L below_L byLeft_L size_L tracks_L) (wRL cI cJ aR aL reach_R steps_R told_R length_R netOf_L left_L right_L trackOf_L touched_L below_L byLeft_L size_L tracks_L) r := by
  refine mk_i [(0, .ref (aR 0)), (1, .ref (aL 0)), (2, .int x2)] (by decide) rfl (Nat.le_of_ble_eq_true rfl) rfl (fun p e s m args below meth c A Q C hk => ?_)
  unfold f_X2_nearestBelow at h
  refine v_iconst (v := (-1)) C dX2_nearestBelow_0 (by decide) ?_
  refine v_istore_n C [(3, .int (-1)), (0, .ref (aR 0)), (1, .ref (aL 0)), (2, .int x2)] dX2_nearestBelow_1 rfl (by decide) rfl ?_
  refine v_iconst (v := 0) C dX2_nearestBelow_2 (by decide) ?_
  refine v_istore C [(4, .int 0), (3, .int (-1)), (0, .ref (aR 0)), (1, .ref (aL 0)), (2, .int x2)] dX2_nearestBelow_3 (by decide) rfl ?_
  obtain ⟨r, h1, h⟩ := bind_el h
  refine v_perm [2, 3, 4, 1, 0] rfl ?_
  obtain ⟨x3_2, rfl⟩ : ∃ z, z = r := ⟨_, rfl⟩
  refine t_X2_nearestBelow_L5 C (s9 := ((-1), 0)) h1 ?_
  show V p l e (rmO 1 22) s m args below meth c 5 D A 0 0 Q 69 [(3, .int x3_2)] [] (wRL cI cJ aR aL reach_R steps_R told_R length_R netOf_L left_L right_L trackOf_L touched_L below_L byLeft_L size_L tracks_L)
  try dsimp only at h
  refine v_iload_n C 0 dX2_nearestBelow_69 rfl rfl ?_
  cases h
  exact hk _ _ dX2_nearestBelow_70
def f_X2_tell_B25 (x2 : Int32) (steps_R : (Nat → Int32)) (below_L : (Nat → Int64)) (size_L : Int32) : (Int32 × (Nat → Int32) × Int32) → Option ((Int32 × (Nat → Int32) × Int32) ⊕ ((Nat → Int32) × Int32))
  | (x3, told_R, length_R) => bnd length_R 38 ((f_X2_nearestBelow steps_R below_L size_L x3).bind (fun r => match r with | r_4 => if r_4 = x2 then (some (.inr (upd told_R length_R.toNatClampNeg x3, length_R + 1))) else (if r_4 = (-1) then (some (.inr (upd told_R length_R.toNatClampNeg x3, length_R + 1))) else (if (length_R + 1) < size_L then (some (.inl (r_4, upd told_R length_R.toNatClampNeg x3, length_R + 1))) else (some (.inr (upd told_R length_R.toNatClampNeg x3, length_R + 1)))))))
def f_X2_tell (reach_R : (Nat → Int64)) (steps_R : (Nat → Int32)) (told_R : (Nat → Int32)) (below_L : (Nat → Int64)) (size_L : Int32) : Option ((Nat → Int64) × (Nat → Int32) × (Nat → Int32) × Int32) := (f_X2_lowestInRing reach_R below_L size_L).bind (fun r => match r with | (r_1, reach_R_2) => if r_1 = (-1) then (some (reach_R_2, steps_R, told_R, 0)) else ((f_X2_countStepsTo steps_R below_L size_L r_1).bind (fun r => match r with | steps_R_3 => (lp (f_X2_tell_B25 r_1 steps_R_3 below_L size_L) 64 (r_1, told_R, 0)).bind (fun r => match r with | (told_R_5, length_R_6) => some (reach_R_2, steps_R_3, told_R_5, length_R_6)))))
theorem cw_X2_tell : CWv yX2_tell cX2_tell 4 none RX2 1 := ⟨m2_140, ms2_11, m1_3, m2_141, rfl, by decide, by decide, by decide +kernel⟩
set_option maxHeartbeats 4000000 in
set_option maxRecDepth 100000 in
theorem t_X2_tell_B25 {p : Program} {l : Launch} {e : Env} {s : State} {m : MethodId} {args : Array Value} {below : List Frame} {meth : Method} {c : Code} {D : va_G} {A : Nat → Prop} {cI cJ : ClassId} {Q : State → Prop} (C : Cx p s m args c cX2_tell 4 RX2 D A cI cJ) {aR : Nat → Nat} {aL : Nat → Nat} {x2 : Int32} {reach_R : (Nat → Int64)} {steps_R : (Nat → Int32)} {netOf_L : (Nat → Int32)} {left_L : (Nat → Int32)} {right_L : (Nat → Int32)} {trackOf_L : (Nat → Int32)} {touched_L : (Nat → Int32)} {below_L : (Nat → Int64)} {byLeft_L : (Nat → Int32)} {size_L : Int32} {tracks_L : Int32} (s8 : (Int32 × (Nat → Int32) × Int32)) (o8 : (Int32 × (Nat → Int32) × Int32) ⊕ ((Nat → Int32) × Int32)) (h : f_X2_tell_B25 x2 steps_R below_L size_L s8 = some o8) (hl : ∀ s8, o8 = .inl s8 → V p l e (rmO 3 85) s m args below meth c 4 D A 0 0 Q 25 [(0, .ref (aR 0)), (1, .ref (aL 0)), (2, .int x2), (3, .int s8.1)] [] (wRL cI cJ aR aL reach_R steps_R s8.2.1 s8.2.2 netOf_L left_L right_L trackOf_L touched_L below_L byLeft_L size_L tracks_L)) (hx : ∀ r8, o8 = .inr r8 → V p l e (rmO 3 85) s m args below meth c 4 D A 0 0 Q 73 [] [] (wRL cI cJ aR aL reach_R steps_R r8.1 r8.2 netOf_L left_L right_L trackOf_L touched_L below_L byLeft_L size_L tracks_L)) : V p l e (rmO 3 85) s m args below meth c 4 D A 0 0 Q 25 [(0, .ref (aR 0)), (1, .ref (aL 0)), (2, .int x2), (3, .int s8.1)] [] (wRL cI cJ aR aL reach_R steps_R s8.2.1 s8.2.2 netOf_L left_L right_L trackOf_L touched_L below_L byLeft_L size_L tracks_L) := by
  obtain ⟨x3, told_R, length_R⟩ := s8
  unfold f_X2_tell_B25 at h
  show V p l e (rmO 3 85) s m args below meth c 4 D A 0 0 Q 25 [(0, .ref (aR 0)), (1, .ref (aL 0)), (2, .int x2), (3, .int x3)] [] (wRL cI cJ aR aL reach_R steps_R told_R length_R netOf_L left_L right_L trackOf_L touched_L below_L byLeft_L size_L tracks_L)
  refine v_aload_n C 0 dX2_tell_25 rfl rfl ?_
  refine v_get C 0 2 iuX2 rfl rfl (by decide) m1_50 rfl rfl dX2_tell_26 ?_
  refine v_aload_n C 0 dX2_tell_29 rfl rfl ?_
  refine v_get C 0 3 iuX2 rfl rfl (by decide) m1_51 rfl rfl dX2_tell_30 ?_
  refine v_iload_n C 3 dX2_tell_33 rfl rfl ?_
  refine v_iast C (wRL cI cJ aR aL reach_R steps_R (upd told_R length_R.toNatClampNeg x3) length_R netOf_L left_L right_L trackOf_L touched_L below_L byLeft_L size_L tracks_L) 3 rfl dX2_tell_34 h rfl (fun h => ?_)
  refine v_aload_n C 0 dX2_tell_35 rfl rfl ?_
  refine v_dup C dX2_tell_36 rfl ?_
  refine v_get C 0 3 iuX2 rfl rfl (by decide) m1_51 rfl rfl dX2_tell_37 ?_
  refine v_iconst (v := 1) C dX2_tell_40 (by decide) ?_
  refine v_iadd C dX2_tell_41 ?_
  refine v_put C (wRL cI cJ aR aL reach_R steps_R (upd told_R length_R.toNatClampNeg x3) (length_R + 1) netOf_L left_L right_L trackOf_L touched_L below_L byLeft_L size_L tracks_L) 0 3 iuX2 tyX2_ok nmX2 rfl rfl (by decide) m1_51 rfl rfl rfl rfl rfl (Nat.le_of_ble_eq_true rfl) dX2_tell_42 rfl ?_
  refine v_aload_n C 0 dX2_tell_45 rfl rfl ?_
  refine v_aload_n C 1 dX2_tell_46 rfl rfl ?_
  refine v_iload_n C 3 dX2_tell_47 rfl rfl ?_
  obtain ⟨r, h1, h⟩ := bind_el h
  obtain ⟨r_4, rfl⟩ : ∃ z, z = r := ⟨_, rfl⟩
  try dsimp only at h
  refine v_callVi (As := [.ref (aL 0), .int x3]) (st := []) (wr := []) (w1 := (wRL cI cJ aR aL reach_R steps_R (upd told_R length_R.toNatClampNeg x3) (length_R + 1) netOf_L left_L right_L trackOf_L touched_L below_L byLeft_L size_L tracks_L)) (ws' := (wRL cI cJ aR aL reach_R steps_R (upd told_R length_R.toNatClampNeg x3) (length_R + 1) netOf_L left_L right_L trackOf_L touched_L below_L byLeft_L size_L tracks_L)) (isC := [0, 1, 2, 3, 4, 5, 6, 7, 8, 9, 10, 11]) (isR := []) (pm := [0, 1, 2, 3, 4, 5, 6, 7, 8, 9, 10, 11]) C (c_X2_nearestBelow l D cI cJ aR aL reach_R steps_R (upd told_R length_R.toNatClampNeg x3) (length_R + 1) netOf_L left_L right_L trackOf_L touched_L below_L byLeft_L size_L tracks_L x3 r_4 h1) cw_X2_nearestBelow 0 rfl rfl m2_150 dX2_tell_48 rfl ⟨Nat.le_of_ble_eq_true rfl, Nat.le_of_ble_eq_true rfl⟩ (Nat.le_of_ble_eq_true rfl) ⟨Nat.le_refl 0, Nat.le_refl 0⟩ ⟨rfl, rfl, rfl, rfl, by decide, rfl, rfl⟩ ?_
  refine v_istore_n C [(3, .int r_4), (0, .ref (aR 0)), (1, .ref (aL 0)), (2, .int x2)] dX2_tell_51 rfl (by decide) rfl ?_
  refine v_iload_n C 0 dX2_tell_52 rfl rfl ?_
  refine v_iload_n C 3 dX2_tell_53 rfl rfl ?_
  refine v_icmp_eq (tgt := 73) C dX2_tell_54 (by decide) h (fun h => ?_) (fun h => ?_)
  · refine v_perm [] rfl ?_
    cases h
    exact hx _ rfl
  · refine v_iload_n C 0 dX2_tell_57 rfl rfl ?_
    refine v_iconst (v := (-1)) C dX2_tell_58 (by decide) ?_
    refine v_icmp_eq (tgt := 73) C dX2_tell_59 (by decide) h (fun h => ?_) (fun h => ?_)
    · refine v_perm [] rfl ?_
      cases h
      exact hx _ rfl
    · refine v_aload_n C 1 dX2_tell_62 rfl rfl ?_
      refine v_get C 0 3 iuX2 rfl rfl (by decide) m1_51 rfl rfl dX2_tell_63 ?_
      refine v_aload_n C 2 dX2_tell_66 rfl rfl ?_
      refine v_getN C 4 7 iuX1 rfl rfl (by decide) nw_12 rfl rfl dX2_tell_67 ?_
      refine v_icmp_lt (tgt := 25) C dX2_tell_70 (by decide) h (fun h => ?_) (fun h => ?_)
      · refine v_perm [1, 2, 3, 0] rfl ?_
        cases h
        exact hl _ rfl
      · refine v_perm [] rfl ?_
        cases h
        exact hx _ rfl
set_option maxHeartbeats 4000000 in
set_option maxRecDepth 100000 in
theorem t_X2_tell_L25 {p : Program} {l : Launch} {e : Env} {s : State} {m : MethodId} {args : Array Value} {below : List Frame} {meth : Method} {c : Code} {D : va_G} {A : Nat → Prop} {cI cJ : ClassId} {Q : State → Prop} (C : Cx p s m args c cX2_tell 4 RX2 D A cI cJ) {aR : Nat → Nat} {aL : Nat → Nat} {x2 : Int32} {reach_R : (Nat → Int64)} {steps_R : (Nat → Int32)} {netOf_L : (Nat → Int32)} {left_L : (Nat → Int32)} {right_L : (Nat → Int32)} {trackOf_L : (Nat → Int32)} {touched_L : (Nat → Int32)} {below_L : (Nat → Int64)} {byLeft_L : (Nat → Int32)} {size_L : Int32} {tracks_L : Int32} {n8 : Nat} {s9 : (Int32 × (Nat → Int32) × Int32)} {o8 : ((Nat → Int32) × Int32)} (h : lp (f_X2_tell_B25 x2 steps_R below_L size_L) n8 s9 = some o8) (hk : V p l e (rmO 3 85) s m args below meth c 4 D A 0 0 Q 73 [] [] (wRL cI cJ aR aL reach_R steps_R o8.1 o8.2 netOf_L left_L right_L trackOf_L touched_L below_L byLeft_L size_L tracks_L)) : V p l e (rmO 3 85) s m args below meth c 4 D A 0 0 Q 25 [(0, .ref (aR 0)), (1, .ref (aL 0)), (2, .int x2), (3, .int s9.1)] [] (wRL cI cJ aR aL reach_R steps_R s9.2.1 s9.2.2 netOf_L left_L right_L trackOf_L touched_L below_L byLeft_L size_L tracks_L) := lp_ok (Pσ := fun s8 => V p l e (rmO 3 85) s m args below meth c 4 D A 0 0 Q 25 [(0, .ref (aR 0)), (1, .ref (aL 0)), (2, .int x2), (3, .int s8.1)] [] (wRL cI cJ aR aL reach_R steps_R s8.2.1 s8.2.2 netOf_L left_L right_L trackOf_L touched_L below_L byLeft_L size_L tracks_L)) (Pρ := fun r8 => V p l e (rmO 3 85) s m args below meth c 4 D A 0 0 Q 73 [] [] (wRL cI cJ aR aL reach_R steps_R r8.1 r8.2 netOf_L left_L right_L trackOf_L touched_L below_L byLeft_L size_L tracks_L)) (fun s o h hl hx => t_X2_tell_B25 C s o h hl hx) n8 s9 o8 h hk
set_option maxHeartbeats 4000000 in
set_option maxRecDepth 100000 in
theorem c_X2_tell (l : Launch) (D : va_G) (cI cJ : ClassId) (aR : Nat → Nat) (aL : Nat → Nat) (reach_R : (Nat → Int64)) (steps_R : (Nat → Int32)) (told_R : (Nat → Int32)) (length_R : Int32) (netOf_L : (Nat → Int32)) (left_L : (Nat → Int32)) (right_L : (Nat → Int32)) (trackOf_L : (Nat → Int32)) (touched_L : (Nat → Int32)) (below_L : (Nat → Int64)) (byLeft_L : (Nat → Int32)) (size_L : Int32) (tracks_L : Int32) (reach_R' : (Nat → Int64)) (steps_R' : (Nat → Int32)) (told_R' : (Nat → Int32)) (length_R' : Int32) (h : f_X2_tell reach_R steps_R told_R below_L size_L = some (reach_R', steps_R', told_R', length_R')) : Ctv l D cI cJ yX2_tell cX2_tell 4 none 3 85 [.ref (aR 0), .ref (aL 0)] (wRL cI cJ aR aL reach_R steps_R told_R length_R netOf_L left_L right_L trackOf_L touched_L below_L byLeft_L size_L tracks_L) (wRL cI cJ aR aL reach_R' steps_R' told_R' length_R' netOf_L left_L right_L trackOf_L touched_L below_L byLeft_L size_L tracks_L) := by
  refine mk_v [(0, .ref (aR 0)), (1, .ref (aL 0))] (by decide) rfl (Nat.le_of_ble_eq_true rfl) rfl (fun p e s m args below meth c A Q C hk => ?_)
  unfold f_X2_tell at h
  refine v_aload_n C 0 dX2_tell_0 rfl rfl ?_
  refine v_aload_n C 1 dX2_tell_1 rfl rfl ?_
  obtain ⟨r, h1, h⟩ := bind_el h
  obtain ⟨r_1, reach_R_2⟩ := r
  try dsimp only at h
  refine v_callVi (As := [.ref (aL 0)]) (st := []) (wr := []) (w1 := (wRL cI cJ aR aL reach_R_2 steps_R told_R length_R netOf_L left_L right_L trackOf_L touched_L below_L byLeft_L size_L tracks_L)) (ws' := (wRL cI cJ aR aL reach_R_2 steps_R told_R length_R netOf_L left_L right_L trackOf_L touched_L below_L byLeft_L size_L tracks_L)) (isC := [0, 1, 2, 3, 4, 5, 6, 7, 8, 9, 10, 11]) (isR := []) (pm := [0, 1, 2, 3, 4, 5, 6, 7, 8, 9, 10, 11]) C (c_X2_lowestInRing l D cI cJ aR aL reach_R steps_R told_R length_R netOf_L left_L right_L trackOf_L touched_L below_L byLeft_L size_L tracks_L r_1 reach_R_2 h1) cw_X2_lowestInRing 0 rfl rfl m2_142 dX2_tell_2 rfl ⟨Nat.le_of_ble_eq_true rfl, Nat.le_of_ble_eq_true rfl⟩ (Nat.le_of_ble_eq_true rfl) ⟨Nat.le_refl 0, Nat.le_refl 0⟩ ⟨rfl, rfl, rfl, rfl, by decide, rfl, rfl⟩ ?_
  refine v_istore_n C [(2, .int r_1), (0, .ref (aR 0)), (1, .ref (aL 0))] dX2_tell_5 rfl (by decide) rfl ?_
  refine v_aload_n C 1 dX2_tell_6 rfl rfl ?_
  refine v_iconst (v := 0) C dX2_tell_7 (by decide) ?_
  refine v_put C (wRL cI cJ aR aL reach_R_2 steps_R told_R 0 netOf_L left_L right_L trackOf_L touched_L below_L byLeft_L size_L tracks_L) 0 3 iuX2 tyX2_ok nmX2 rfl rfl (by decide) m1_51 rfl rfl rfl rfl rfl (Nat.le_of_ble_eq_true rfl) dX2_tell_8 rfl ?_
  refine v_iload_n C 0 dX2_tell_11 rfl rfl ?_
  refine v_iconst (v := (-1)) C dX2_tell_12 (by decide) ?_
  refine v_icmp_ne (tgt := 17) C dX2_tell_13 (by decide) h (fun h => ?_) (fun h => ?_)
  · cases h
    exact hk _ _ dX2_tell_16
  · refine v_aload_n C 1 dX2_tell_17 rfl rfl ?_
    refine v_aload_n C 2 dX2_tell_18 rfl rfl ?_
    refine v_iload_n C 0 dX2_tell_19 rfl rfl ?_
    obtain ⟨r, h1, h⟩ := bind_el h
    obtain ⟨steps_R_3, rfl⟩ : ∃ z, z = r := ⟨_, rfl⟩
    try dsimp only at h
    refine v_callVv (As := [.ref (aL 0), .int r_1]) (st := []) (wr := []) (w1 := (wRL cI cJ aR aL reach_R_2 steps_R_3 told_R 0 netOf_L left_L right_L trackOf_L touched_L below_L byLeft_L size_L tracks_L)) (ws' := (wRL cI cJ aR aL reach_R_2 steps_R_3 told_R 0 netOf_L left_L right_L trackOf_L touched_L below_L byLeft_L size_L tracks_L)) (isC := [0, 1, 2, 3, 4, 5, 6, 7, 8, 9, 10, 11]) (isR := []) (pm := [0, 1, 2, 3, 4, 5, 6, 7, 8, 9, 10, 11]) C (c_X2_countStepsTo l D cI cJ aR aL reach_R_2 steps_R told_R 0 netOf_L left_L right_L trackOf_L touched_L below_L byLeft_L size_L tracks_L r_1 steps_R_3 h1) cw_X2_countStepsTo 0 rfl rfl m2_143 dX2_tell_20 rfl ⟨Nat.le_of_ble_eq_true rfl, Nat.le_of_ble_eq_true rfl⟩ (Nat.le_of_ble_eq_true rfl) ⟨Nat.le_refl 0, Nat.le_refl 0⟩ ⟨rfl, rfl, rfl, rfl, by decide, rfl, rfl⟩ ?_
    refine v_iload_n C 0 dX2_tell_23 rfl rfl ?_
    refine v_istore_n C [(3, .int r_1), (2, .int r_1), (0, .ref (aR 0)), (1, .ref (aL 0))] dX2_tell_24 rfl (by decide) rfl ?_
    obtain ⟨r, h1, h⟩ := bind_el h
    refine v_perm [2, 3, 1, 0] rfl ?_
    obtain ⟨told_R_5, length_R_6⟩ := r
    refine t_X2_tell_L25 C (s9 := (r_1, told_R, 0)) h1 ?_
    show V p l e (rmO 3 85) s m args below meth c 4 D A 0 0 Q 73 [] [] (wRL cI cJ aR aL reach_R_2 steps_R_3 told_R_5 length_R_6 netOf_L left_L right_L trackOf_L touched_L below_L byLeft_L size_L tracks_L)
    try dsimp only at h
    cases h
    exact hk _ _ dX2_tell_73
end
