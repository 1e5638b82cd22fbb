section
-- ===== PART A: goes FIRST, ahead of the names: the tables' words, and 'selects' of the private methods out of them =====
/-- a private method of a class that the tables say can be made, by its rows of tables_1 -/
def lw_okq (q : MethodName × Nat) : Prop := (q.1.cls ≠ "java/lang/invoke/MethodHandle" ∧ q.1.cls ≠ "java/lang/invoke/VarHandle") ∧ Cond.instantiable q.1.cls q.2 ∈ tables_1 ∧ Cond.privateMethod q.1 ∈ tables_1 ∧ Cond.instanceMethod q.1 ∈ tables_1
theorem lw_p0 : lw_okq (⟨"MovingThings$Track", "copyRow", "(II)V"⟩, 5) := ⟨⟨by decide +kernel, by decide +kernel⟩, List.mem_of_getElem? (i := 212) (by decide +kernel), List.mem_of_getElem? (i := 317) (by decide +kernel), List.mem_of_getElem? (i := 318) (by decide +kernel)⟩
theorem lw_p1 : lw_okq (⟨"MovingThings", "isRow", "(II)Z"⟩, 14) := ⟨⟨by decide +kernel, by decide +kernel⟩, List.mem_of_getElem? (i := 15) (by decide +kernel), List.mem_of_getElem? (i := 325) (by decide +kernel), List.mem_of_getElem? (i := 326) (by decide +kernel)⟩
theorem lw_p2 : lw_okq (⟨"MovingThings$Track", "locateBehind", "(IILMovingThings$Spot;)Z"⟩, 5) := ⟨⟨by decide +kernel, by decide +kernel⟩, List.mem_of_getElem? (i := 212) (by decide +kernel), List.mem_of_getElem? (i := 352) (by decide +kernel), List.mem_of_getElem? (i := 353) (by decide +kernel)⟩
theorem lw_p3 : lw_okq (⟨"MovingThings$Track", "followLeg", "(IILMovingThings$Spot;)V"⟩, 5) := ⟨⟨by decide +kernel, by decide +kernel⟩, List.mem_of_getElem? (i := 212) (by decide +kernel), List.mem_of_getElem? (i := 360) (by decide +kernel), List.mem_of_getElem? (i := 361) (by decide +kernel)⟩
theorem lw_p4 : lw_okq (⟨"MovingThings$Track", "standAt", "(ILMovingThings$Spot;)V"⟩, 5) := ⟨⟨by decide +kernel, by decide +kernel⟩, List.mem_of_getElem? (i := 212) (by decide +kernel), List.mem_of_getElem? (i := 364) (by decide +kernel), List.mem_of_getElem? (i := 365) (by decide +kernel)⟩
theorem lw_p5 : lw_okq (⟨"MovingThings", "isIn", "(LMovingThings$Place;II)Z"⟩, 14) := ⟨⟨by decide +kernel, by decide +kernel⟩, List.mem_of_getElem? (i := 15) (by decide +kernel), List.mem_of_getElem? (i := 400) (by decide +kernel), List.mem_of_getElem? (i := 401) (by decide +kernel)⟩
theorem lw_p6 : lw_okq (⟨"MovingThings", "gatherVisits", "(I)V"⟩, 14) := ⟨⟨by decide +kernel, by decide +kernel⟩, List.mem_of_getElem? (i := 15) (by decide +kernel), List.mem_of_getElem? (i := 420) (by decide +kernel), List.mem_of_getElem? (i := 421) (by decide +kernel)⟩
theorem lw_p7 : lw_okq (⟨"MovingThings", "locateBoth", "(III)Z"⟩, 14) := ⟨⟨by decide +kernel, by decide +kernel⟩, List.mem_of_getElem? (i := 15) (by decide +kernel), List.mem_of_getElem? (i := 442) (by decide +kernel), List.mem_of_getElem? (i := 443) (by decide +kernel)⟩
theorem lw_p8 : lw_okq (⟨"MovingThings", "gatherMeetings", "(III)V"⟩, 14) := ⟨⟨by decide +kernel, by decide +kernel⟩, List.mem_of_getElem? (i := 15) (by decide +kernel), List.mem_of_getElem? (i := 478) (by decide +kernel), List.mem_of_getElem? (i := 479) (by decide +kernel)⟩
theorem lw_p9 : lw_okq (⟨"MovingThings", "isMeeting", "(IIII)Z"⟩, 14) := ⟨⟨by decide +kernel, by decide +kernel⟩, List.mem_of_getElem? (i := 15) (by decide +kernel), List.mem_of_getElem? (i := 482) (by decide +kernel), List.mem_of_getElem? (i := 483) (by decide +kernel)⟩
theorem lw_p10 : lw_okq (⟨"MovingThings", "refreshTree", "()V"⟩, 14) := ⟨⟨by decide +kernel, by decide +kernel⟩, List.mem_of_getElem? (i := 15) (by decide +kernel), List.mem_of_getElem? (i := 503) (by decide +kernel), List.mem_of_getElem? (i := 504) (by decide +kernel)⟩
theorem lw_p11 : lw_okq (⟨"MovingThings$Pages", "addLeaf", "()V"⟩, 15) := ⟨⟨by decide +kernel, by decide +kernel⟩, List.mem_of_getElem? (i := 114) (by decide +kernel), List.mem_of_getElem? (i := 511) (by decide +kernel), List.mem_of_getElem? (i := 512) (by decide +kernel)⟩
theorem lw_p12 : lw_okq (⟨"MovingThings$Pages", "setLegAxis", "(II[II)V"⟩, 15) := ⟨⟨by decide +kernel, by decide +kernel⟩, List.mem_of_getElem? (i := 114) (by decide +kernel), List.mem_of_getElem? (i := 520) (by decide +kernel), List.mem_of_getElem? (i := 521) (by decide +kernel)⟩
theorem lw_p13 : lw_okq (⟨"MovingThings$Pages", "partFor", "(II)I"⟩, 15) := ⟨⟨by decide +kernel, by decide +kernel⟩, List.mem_of_getElem? (i := 114) (by decide +kernel), List.mem_of_getElem? (i := 537) (by decide +kernel), List.mem_of_getElem? (i := 538) (by decide +kernel)⟩
theorem lw_p14 : lw_okq (⟨"MovingThings$Pages", "hold", "(II)V"⟩, 15) := ⟨⟨by decide +kernel, by decide +kernel⟩, List.mem_of_getElem? (i := 114) (by decide +kernel), List.mem_of_getElem? (i := 549) (by decide +kernel), List.mem_of_getElem? (i := 550) (by decide +kernel)⟩
theorem lw_p15 : lw_okq (⟨"MovingThings$Pages", "chooseCut", "(I)I"⟩, 15) := ⟨⟨by decide +kernel, by decide +kernel⟩, List.mem_of_getElem? (i := 114) (by decide +kernel), List.mem_of_getElem? (i := 561) (by decide +kernel), List.mem_of_getElem? (i := 562) (by decide +kernel)⟩
def lw_privs_1 : List (MethodName × Nat) := [(⟨"MovingThings$Track", "copyRow", "(II)V"⟩, 5), (⟨"MovingThings", "isRow", "(II)Z"⟩, 14), (⟨"MovingThings$Track", "locateBehind", "(IILMovingThings$Spot;)Z"⟩, 5), (⟨"MovingThings$Track", "followLeg", "(IILMovingThings$Spot;)V"⟩, 5), (⟨"MovingThings$Track", "standAt", "(ILMovingThings$Spot;)V"⟩, 5), (⟨"MovingThings", "isIn", "(LMovingThings$Place;II)Z"⟩, 14), (⟨"MovingThings", "gatherVisits", "(I)V"⟩, 14), (⟨"MovingThings", "locateBoth", "(III)Z"⟩, 14), (⟨"MovingThings", "gatherMeetings", "(III)V"⟩, 14), (⟨"MovingThings", "isMeeting", "(IIII)Z"⟩, 14), (⟨"MovingThings", "refreshTree", "()V"⟩, 14), (⟨"MovingThings$Pages", "addLeaf", "()V"⟩, 15), (⟨"MovingThings$Pages", "setLegAxis", "(II[II)V"⟩, 15), (⟨"MovingThings$Pages", "partFor", "(II)I"⟩, 15), (⟨"MovingThings$Pages", "hold", "(II)V"⟩, 15), (⟨"MovingThings$Pages", "chooseCut", "(I)I"⟩, 15)]
theorem lw_r1 : ∀ q ∈ lw_privs_1, lw_okq q := List.forall_mem_cons.mpr ⟨lw_p0, List.forall_mem_cons.mpr ⟨lw_p1, List.forall_mem_cons.mpr ⟨lw_p2, List.forall_mem_cons.mpr ⟨lw_p3, List.forall_mem_cons.mpr ⟨lw_p4, List.forall_mem_cons.mpr ⟨lw_p5, List.forall_mem_cons.mpr ⟨lw_p6, List.forall_mem_cons.mpr ⟨lw_p7, List.forall_mem_cons.mpr ⟨lw_p8, List.forall_mem_cons.mpr ⟨lw_p9, List.forall_mem_cons.mpr ⟨lw_p10, List.forall_mem_cons.mpr ⟨lw_p11, List.forall_mem_cons.mpr ⟨lw_p12, List.forall_mem_cons.mpr ⟨lw_p13, List.forall_mem_cons.mpr ⟨lw_p14, List.forall_mem_cons.mpr ⟨lw_p15, fun _ h => absurd h List.not_mem_nil⟩⟩⟩⟩⟩⟩⟩⟩⟩⟩⟩⟩⟩⟩⟩⟩
theorem lw_p16 : lw_okq (⟨"MovingThings$Pages", "sortAlong", "(II)V"⟩, 15) := ⟨⟨by decide +kernel, by decide +kernel⟩, List.mem_of_getElem? (i := 114) (by decide +kernel), List.mem_of_getElem? (i := 565) (by decide +kernel), List.mem_of_getElem? (i := 566) (by decide +kernel)⟩
theorem lw_p17 : lw_okq (⟨"MovingThings$Pages", "isAhead", "(III)Z"⟩, 15) := ⟨⟨by decide +kernel, by decide +kernel⟩, List.mem_of_getElem? (i := 114) (by decide +kernel), List.mem_of_getElem? (i := 569) (by decide +kernel), List.mem_of_getElem? (i := 570) (by decide +kernel)⟩
theorem lw_p18 : lw_okq (⟨"MovingThings$Pages", "sizeTogether", "(II)I"⟩, 15) := ⟨⟨by decide +kernel, by decide +kernel⟩, List.mem_of_getElem? (i := 114) (by decide +kernel), List.mem_of_getElem? (i := 577) (by decide +kernel), List.mem_of_getElem? (i := 578) (by decide +kernel)⟩
theorem lw_p19 : lw_okq (⟨"MovingThings$Pages", "touchedIn", "(I)I"⟩, 15) := ⟨⟨by decide +kernel, by decide +kernel⟩, List.mem_of_getElem? (i := 114) (by decide +kernel), List.mem_of_getElem? (i := 613) (by decide +kernel), List.mem_of_getElem? (i := 614) (by decide +kernel)⟩
theorem lw_p20 : lw_okq (⟨"MovingThings$Thinning", "countBackwards", "(LMovingThings$Track;I)V"⟩, 3) := ⟨⟨by decide +kernel, by decide +kernel⟩, List.mem_of_getElem? (i := 184) (by decide +kernel), List.mem_of_getElem? (i := 628) (by decide +kernel), List.mem_of_getElem? (i := 629) (by decide +kernel)⟩
theorem lw_p21 : lw_okq (⟨"MovingThings$Thinning", "keep", "(I)V"⟩, 3) := ⟨⟨by decide +kernel, by decide +kernel⟩, List.mem_of_getElem? (i := 184) (by decide +kernel), List.mem_of_getElem? (i := 641) (by decide +kernel), List.mem_of_getElem? (i := 642) (by decide +kernel)⟩
theorem lw_p22 : lw_okq (⟨"MovingThings", "refuseChange", "(II)I"⟩, 14) := ⟨⟨by decide +kernel, by decide +kernel⟩, List.mem_of_getElem? (i := 15) (by decide +kernel), List.mem_of_getElem? (i := 669) (by decide +kernel), List.mem_of_getElem? (i := 670) (by decide +kernel)⟩
theorem lw_p23 : lw_okq (⟨"MovingThings", "isStand", "(I)Z"⟩, 14) := ⟨⟨by decide +kernel, by decide +kernel⟩, List.mem_of_getElem? (i := 15) (by decide +kernel), List.mem_of_getElem? (i := 673) (by decide +kernel), List.mem_of_getElem? (i := 674) (by decide +kernel)⟩
theorem lw_p24 : lw_okq (⟨"MovingThings", "isChange", "(LMovingThings$Place;II)Z"⟩, 14) := ⟨⟨by decide +kernel, by decide +kernel⟩, List.mem_of_getElem? (i := 15) (by decide +kernel), List.mem_of_getElem? (i := 677) (by decide +kernel), List.mem_of_getElem? (i := 678) (by decide +kernel)⟩
theorem lw_p25 : lw_okq (⟨"MovingThings", "countColumns", "()V"⟩, 14) := ⟨⟨by decide +kernel, by decide +kernel⟩, List.mem_of_getElem? (i := 15) (by decide +kernel), List.mem_of_getElem? (i := 693) (by decide +kernel), List.mem_of_getElem? (i := 694) (by decide +kernel)⟩
theorem lw_p26 : lw_okq (⟨"MovingThings$Columns", "fits", "(III)Z"⟩, 1) := ⟨⟨by decide +kernel, by decide +kernel⟩, List.mem_of_getElem? (i := 202) (by decide +kernel), List.mem_of_getElem? (i := 714) (by decide +kernel), List.mem_of_getElem? (i := 715) (by decide +kernel)⟩
theorem lw_p27 : lw_okq (⟨"MovingThings", "allRows", "()I"⟩, 14) := ⟨⟨by decide +kernel, by decide +kernel⟩, List.mem_of_getElem? (i := 15) (by decide +kernel), List.mem_of_getElem? (i := 747) (by decide +kernel), List.mem_of_getElem? (i := 748) (by decide +kernel)⟩
theorem lw_p28 : lw_okq (⟨"MovingThings", "thingsWithRows", "()I"⟩, 14) := ⟨⟨by decide +kernel, by decide +kernel⟩, List.mem_of_getElem? (i := 15) (by decide +kernel), List.mem_of_getElem? (i := 751) (by decide +kernel), List.mem_of_getElem? (i := 752) (by decide +kernel)⟩
theorem lw_p29 : lw_okq (⟨"MovingThings", "thingsThere", "()I"⟩, 14) := ⟨⟨by decide +kernel, by decide +kernel⟩, List.mem_of_getElem? (i := 15) (by decide +kernel), List.mem_of_getElem? (i := 755) (by decide +kernel), List.mem_of_getElem? (i := 756) (by decide +kernel)⟩
theorem lw_p30 : lw_okq (⟨"MovingThingsModel", "move", "(III)V"⟩, 32) := ⟨⟨by decide +kernel, by decide +kernel⟩, List.mem_of_getElem? (i := 759) (by decide +kernel), List.mem_of_getElem? (i := 881) (by decide +kernel), List.mem_of_getElem? (i := 882) (by decide +kernel)⟩
theorem lw_p31 : lw_okq (⟨"MovingThingsModel", "isRow", "(II)Z"⟩, 32) := ⟨⟨by decide +kernel, by decide +kernel⟩, List.mem_of_getElem? (i := 759) (by decide +kernel), List.mem_of_getElem? (i := 889) (by decide +kernel), List.mem_of_getElem? (i := 890) (by decide +kernel)⟩
def lw_privs_2 : List (MethodName × Nat) := [(⟨"MovingThings$Pages", "sortAlong", "(II)V"⟩, 15), (⟨"MovingThings$Pages", "isAhead", "(III)Z"⟩, 15), (⟨"MovingThings$Pages", "sizeTogether", "(II)I"⟩, 15), (⟨"MovingThings$Pages", "touchedIn", "(I)I"⟩, 15), (⟨"MovingThings$Thinning", "countBackwards", "(LMovingThings$Track;I)V"⟩, 3), (⟨"MovingThings$Thinning", "keep", "(I)V"⟩, 3), (⟨"MovingThings", "refuseChange", "(II)I"⟩, 14), (⟨"MovingThings", "isStand", "(I)Z"⟩, 14), (⟨"MovingThings", "isChange", "(LMovingThings$Place;II)Z"⟩, 14), (⟨"MovingThings", "countColumns", "()V"⟩, 14), (⟨"MovingThings$Columns", "fits", "(III)Z"⟩, 1), (⟨"MovingThings", "allRows", "()I"⟩, 14), (⟨"MovingThings", "thingsWithRows", "()I"⟩, 14), (⟨"MovingThings", "thingsThere", "()I"⟩, 14), (⟨"MovingThingsModel", "move", "(III)V"⟩, 32), (⟨"MovingThingsModel", "isRow", "(II)Z"⟩, 32)]
theorem lw_r2 : ∀ q ∈ lw_privs_2, lw_okq q := List.forall_mem_cons.mpr ⟨lw_p16, List.forall_mem_cons.mpr ⟨lw_p17, List.forall_mem_cons.mpr ⟨lw_p18, List.forall_mem_cons.mpr ⟨lw_p19, List.forall_mem_cons.mpr ⟨lw_p20, List.forall_mem_cons.mpr ⟨lw_p21, List.forall_mem_cons.mpr ⟨lw_p22, List.forall_mem_cons.mpr ⟨lw_p23, List.forall_mem_cons.mpr ⟨lw_p24, List.forall_mem_cons.mpr ⟨lw_p25, List.forall_mem_cons.mpr ⟨lw_p26, List.forall_mem_cons.mpr ⟨lw_p27, List.forall_mem_cons.mpr ⟨lw_p28, List.forall_mem_cons.mpr ⟨lw_p29, List.forall_mem_cons.mpr ⟨lw_p30, List.forall_mem_cons.mpr ⟨lw_p31, fun _ h => absurd h List.not_mem_nil⟩⟩⟩⟩⟩⟩⟩⟩⟩⟩⟩⟩⟩⟩⟩⟩
theorem lw_p32 : lw_okq (⟨"MovingThingsModel", "drop", "(II)V"⟩, 32) := ⟨⟨by decide +kernel, by decide +kernel⟩, List.mem_of_getElem? (i := 759) (by decide +kernel), List.mem_of_getElem? (i := 893) (by decide +kernel), List.mem_of_getElem? (i := 894) (by decide +kernel)⟩
theorem lw_p33 : lw_okq (⟨"MovingThingsModel", "find", "(II)Z"⟩, 32) := ⟨⟨by decide +kernel, by decide +kernel⟩, List.mem_of_getElem? (i := 759) (by decide +kernel), List.mem_of_getElem? (i := 909) (by decide +kernel), List.mem_of_getElem? (i := 910) (by decide +kernel)⟩
theorem lw_p34 : lw_okq (⟨"MovingThingsModel", "stand", "(II)V"⟩, 32) := ⟨⟨by decide +kernel, by decide +kernel⟩, List.mem_of_getElem? (i := 759) (by decide +kernel), List.mem_of_getElem? (i := 913) (by decide +kernel), List.mem_of_getElem? (i := 914) (by decide +kernel)⟩
theorem lw_p35 : lw_okq (⟨"MovingThingsModel", "isLeg", "(II)Z"⟩, 32) := ⟨⟨by decide +kernel, by decide +kernel⟩, List.mem_of_getElem? (i := 759) (by decide +kernel), List.mem_of_getElem? (i := 917) (by decide +kernel), List.mem_of_getElem? (i := 918) (by decide +kernel)⟩
theorem lw_p36 : lw_okq (⟨"MovingThingsModel", "goBy", "(III)V"⟩, 32) := ⟨⟨by decide +kernel, by decide +kernel⟩, List.mem_of_getElem? (i := 759) (by decide +kernel), List.mem_of_getElem? (i := 921) (by decide +kernel), List.mem_of_getElem? (i := 922) (by decide +kernel)⟩
theorem lw_p37 : lw_okq (⟨"MovingThingsModel", "isIn", "(IIIIII)Z"⟩, 32) := ⟨⟨by decide +kernel, by decide +kernel⟩, List.mem_of_getElem? (i := 759) (by decide +kernel), List.mem_of_getElem? (i := 949) (by decide +kernel), List.mem_of_getElem? (i := 950) (by decide +kernel)⟩
theorem lw_p38 : lw_okq (⟨"MovingThingsModel", "layVisits", "(IIIII)V"⟩, 32) := ⟨⟨by decide +kernel, by decide +kernel⟩, List.mem_of_getElem? (i := 759) (by decide +kernel), List.mem_of_getElem? (i := 962) (by decide +kernel), List.mem_of_getElem? (i := 963) (by decide +kernel)⟩
theorem lw_p39 : lw_okq (⟨"MovingThingsModel", "beginRuns", "()V"⟩, 32) := ⟨⟨by decide +kernel, by decide +kernel⟩, List.mem_of_getElem? (i := 759) (by decide +kernel), List.mem_of_getElem? (i := 966) (by decide +kernel), List.mem_of_getElem? (i := 967) (by decide +kernel)⟩
theorem lw_p40 : lw_okq (⟨"MovingThingsModel", "meet", "(IZ)V"⟩, 32) := ⟨⟨by decide +kernel, by decide +kernel⟩, List.mem_of_getElem? (i := 759) (by decide +kernel), List.mem_of_getElem? (i := 970) (by decide +kernel), List.mem_of_getElem? (i := 971) (by decide +kernel)⟩
theorem lw_p41 : lw_okq (⟨"MovingThingsModel", "layFar", "(III)Z"⟩, 32) := ⟨⟨by decide +kernel, by decide +kernel⟩, List.mem_of_getElem? (i := 759) (by decide +kernel), List.mem_of_getElem? (i := 984) (by decide +kernel), List.mem_of_getElem? (i := 985) (by decide +kernel)⟩
theorem lw_p42 : lw_okq (⟨"MovingThingsModel", "placeOf", "(III)I"⟩, 32) := ⟨⟨by decide +kernel, by decide +kernel⟩, List.mem_of_getElem? (i := 759) (by decide +kernel), List.mem_of_getElem? (i := 993) (by decide +kernel), List.mem_of_getElem? (i := 994) (by decide +kernel)⟩
theorem lw_p43 : lw_okq (⟨"MovingThingsModel", "mayMeet", "(III)I"⟩, 32) := ⟨⟨by decide +kernel, by decide +kernel⟩, List.mem_of_getElem? (i := 759) (by decide +kernel), List.mem_of_getElem? (i := 1001) (by decide +kernel), List.mem_of_getElem? (i := 1002) (by decide +kernel)⟩
theorem lw_p44 : lw_okq (⟨"MovingThingsModel", "layMeetings", "(III)V"⟩, 32) := ⟨⟨by decide +kernel, by decide +kernel⟩, List.mem_of_getElem? (i := 759) (by decide +kernel), List.mem_of_getElem? (i := 1006) (by decide +kernel), List.mem_of_getElem? (i := 1007) (by decide +kernel)⟩
theorem lw_p45 : lw_okq (⟨"MovingThingsModel", "layPages", "()V"⟩, 32) := ⟨⟨by decide +kernel, by decide +kernel⟩, List.mem_of_getElem? (i := 759) (by decide +kernel), List.mem_of_getElem? (i := 1019) (by decide +kernel), List.mem_of_getElem? (i := 1020) (by decide +kernel)⟩
theorem lw_p46 : lw_okq (⟨"MovingThingsModel", "layLegs", "()V"⟩, 32) := ⟨⟨by decide +kernel, by decide +kernel⟩, List.mem_of_getElem? (i := 759) (by decide +kernel), List.mem_of_getElem? (i := 1023) (by decide +kernel), List.mem_of_getElem? (i := 1024) (by decide +kernel)⟩
theorem lw_p47 : lw_okq (⟨"MovingThingsModel", "span", "(III)V"⟩, 32) := ⟨⟨by decide +kernel, by decide +kernel⟩, List.mem_of_getElem? (i := 759) (by decide +kernel), List.mem_of_getElem? (i := 1027) (by decide +kernel), List.mem_of_getElem? (i := 1028) (by decide +kernel)⟩
def lw_privs_3 : List (MethodName × Nat) := [(⟨"MovingThingsModel", "drop", "(II)V"⟩, 32), (⟨"MovingThingsModel", "find", "(II)Z"⟩, 32), (⟨"MovingThingsModel", "stand", "(II)V"⟩, 32), (⟨"MovingThingsModel", "isLeg", "(II)Z"⟩, 32), (⟨"MovingThingsModel", "goBy", "(III)V"⟩, 32), (⟨"MovingThingsModel", "isIn", "(IIIIII)Z"⟩, 32), (⟨"MovingThingsModel", "layVisits", "(IIIII)V"⟩, 32), (⟨"MovingThingsModel", "beginRuns", "()V"⟩, 32), (⟨"MovingThingsModel", "meet", "(IZ)V"⟩, 32), (⟨"MovingThingsModel", "layFar", "(III)Z"⟩, 32), (⟨"MovingThingsModel", "placeOf", "(III)I"⟩, 32), (⟨"MovingThingsModel", "mayMeet", "(III)I"⟩, 32), (⟨"MovingThingsModel", "layMeetings", "(III)V"⟩, 32), (⟨"MovingThingsModel", "layPages", "()V"⟩, 32), (⟨"MovingThingsModel", "layLegs", "()V"⟩, 32), (⟨"MovingThingsModel", "span", "(III)V"⟩, 32)]
theorem lw_r3 : ∀ q ∈ lw_privs_3, lw_okq q := List.forall_mem_cons.mpr ⟨lw_p32, List.forall_mem_cons.mpr ⟨lw_p33, List.forall_mem_cons.mpr ⟨lw_p34, List.forall_mem_cons.mpr ⟨lw_p35, List.forall_mem_cons.mpr ⟨lw_p36, List.forall_mem_cons.mpr ⟨lw_p37, List.forall_mem_cons.mpr ⟨lw_p38, List.forall_mem_cons.mpr ⟨lw_p39, List.forall_mem_cons.mpr ⟨lw_p40, List.forall_mem_cons.mpr ⟨lw_p41, List.forall_mem_cons.mpr ⟨lw_p42, List.forall_mem_cons.mpr ⟨lw_p43, List.forall_mem_cons.mpr ⟨lw_p44, List.forall_mem_cons.mpr ⟨lw_p45, List.forall_mem_cons.mpr ⟨lw_p46, List.forall_mem_cons.mpr ⟨lw_p47, fun _ h => absurd h List.not_mem_nil⟩⟩⟩⟩⟩⟩⟩⟩⟩⟩⟩⟩⟩⟩⟩⟩
theorem lw_p48 : lw_okq (⟨"MovingThingsModel", "newPage", "(I)I"⟩, 32) := ⟨⟨by decide +kernel, by decide +kernel⟩, List.mem_of_getElem? (i := 759) (by decide +kernel), List.mem_of_getElem? (i := 1031) (by decide +kernel), List.mem_of_getElem? (i := 1032) (by decide +kernel)⟩
theorem lw_p49 : lw_okq (⟨"MovingThingsModel", "addLeg", "(I)V"⟩, 32) := ⟨⟨by decide +kernel, by decide +kernel⟩, List.mem_of_getElem? (i := 759) (by decide +kernel), List.mem_of_getElem? (i := 1035) (by decide +kernel), List.mem_of_getElem? (i := 1036) (by decide +kernel)⟩
theorem lw_p50 : lw_okq (⟨"MovingThingsModel", "join", "(II)V"⟩, 32) := ⟨⟨by decide +kernel, by decide +kernel⟩, List.mem_of_getElem? (i := 759) (by decide +kernel), List.mem_of_getElem? (i := 1039) (by decide +kernel), List.mem_of_getElem? (i := 1040) (by decide +kernel)⟩
theorem lw_p51 : lw_okq (⟨"MovingThingsModel", "growth", "(II)I"⟩, 32) := ⟨⟨by decide +kernel, by decide +kernel⟩, List.mem_of_getElem? (i := 759) (by decide +kernel), List.mem_of_getElem? (i := 1043) (by decide +kernel), List.mem_of_getElem? (i := 1044) (by decide +kernel)⟩
theorem lw_p52 : lw_okq (⟨"MovingThingsModel", "sizeWith", "(II)I"⟩, 32) := ⟨⟨by decide +kernel, by decide +kernel⟩, List.mem_of_getElem? (i := 759) (by decide +kernel), List.mem_of_getElem? (i := 1047) (by decide +kernel), List.mem_of_getElem? (i := 1048) (by decide +kernel)⟩
theorem lw_p53 : lw_okq (⟨"MovingThingsModel", "put", "(II)V"⟩, 32) := ⟨⟨by decide +kernel, by decide +kernel⟩, List.mem_of_getElem? (i := 759) (by decide +kernel), List.mem_of_getElem? (i := 1051) (by decide +kernel), List.mem_of_getElem? (i := 1052) (by decide +kernel)⟩
theorem lw_p54 : lw_okq (⟨"MovingThingsModel", "cut", "(I)V"⟩, 32) := ⟨⟨by decide +kernel, by decide +kernel⟩, List.mem_of_getElem? (i := 759) (by decide +kernel), List.mem_of_getElem? (i := 1055) (by decide +kernel), List.mem_of_getElem? (i := 1056) (by decide +kernel)⟩
theorem lw_p55 : lw_okq (⟨"MovingThingsModel", "sort", "(II)V"⟩, 32) := ⟨⟨by decide +kernel, by decide +kernel⟩, List.mem_of_getElem? (i := 759) (by decide +kernel), List.mem_of_getElem? (i := 1060) (by decide +kernel), List.mem_of_getElem? (i := 1061) (by decide +kernel)⟩
theorem lw_p56 : lw_okq (⟨"MovingThingsModel", "isBehind", "(III)Z"⟩, 32) := ⟨⟨by decide +kernel, by decide +kernel⟩, List.mem_of_getElem? (i := 759) (by decide +kernel), List.mem_of_getElem? (i := 1064) (by decide +kernel), List.mem_of_getElem? (i := 1065) (by decide +kernel)⟩
theorem lw_p57 : lw_okq (⟨"MovingThingsModel", "sizeOf", "(II)I"⟩, 32) := ⟨⟨by decide +kernel, by decide +kernel⟩, List.mem_of_getElem? (i := 759) (by decide +kernel), List.mem_of_getElem? (i := 1068) (by decide +kernel), List.mem_of_getElem? (i := 1069) (by decide +kernel)⟩
theorem lw_p58 : lw_okq (⟨"MovingThingsModel", "touchesPage", "(I)Z"⟩, 32) := ⟨⟨by decide +kernel, by decide +kernel⟩, List.mem_of_getElem? (i := 759) (by decide +kernel), List.mem_of_getElem? (i := 1082) (by decide +kernel), List.mem_of_getElem? (i := 1083) (by decide +kernel)⟩
theorem lw_p59 : lw_okq (⟨"MovingThingsModel", "touches", "(IIII)Z"⟩, 32) := ⟨⟨by decide +kernel, by decide +kernel⟩, List.mem_of_getElem? (i := 759) (by decide +kernel), List.mem_of_getElem? (i := 1086) (by decide +kernel), List.mem_of_getElem? (i := 1087) (by decide +kernel)⟩
theorem lw_p60 : lw_okq (⟨"MovingThingsModel", "touchesLeg", "(I)Z"⟩, 32) := ⟨⟨by decide +kernel, by decide +kernel⟩, List.mem_of_getElem? (i := 759) (by decide +kernel), List.mem_of_getElem? (i := 1090) (by decide +kernel), List.mem_of_getElem? (i := 1091) (by decide +kernel)⟩
theorem lw_p61 : lw_okq (⟨"MovingThingsModel", "mayThin", "(II)I"⟩, 32) := ⟨⟨by decide +kernel, by decide +kernel⟩, List.mem_of_getElem? (i := 759) (by decide +kernel), List.mem_of_getElem? (i := 1098) (by decide +kernel), List.mem_of_getElem? (i := 1099) (by decide +kernel)⟩
theorem lw_p62 : lw_okq (⟨"MovingThingsModel", "layThin", "(II)I"⟩, 32) := ⟨⟨by decide +kernel, by decide +kernel⟩, List.mem_of_getElem? (i := 759) (by decide +kernel), List.mem_of_getElem? (i := 1102) (by decide +kernel), List.mem_of_getElem? (i := 1103) (by decide +kernel)⟩
theorem lw_p63 : lw_okq (⟨"MovingThingsModel", "mayFollow", "(IIII)Z"⟩, 32) := ⟨⟨by decide +kernel, by decide +kernel⟩, List.mem_of_getElem? (i := 759) (by decide +kernel), List.mem_of_getElem? (i := 1106) (by decide +kernel), List.mem_of_getElem? (i := 1107) (by decide +kernel)⟩
def lw_privs_4 : List (MethodName × Nat) := [(⟨"MovingThingsModel", "newPage", "(I)I"⟩, 32), (⟨"MovingThingsModel", "addLeg", "(I)V"⟩, 32), (⟨"MovingThingsModel", "join", "(II)V"⟩, 32), (⟨"MovingThingsModel", "growth", "(II)I"⟩, 32), (⟨"MovingThingsModel", "sizeWith", "(II)I"⟩, 32), (⟨"MovingThingsModel", "put", "(II)V"⟩, 32), (⟨"MovingThingsModel", "cut", "(I)V"⟩, 32), (⟨"MovingThingsModel", "sort", "(II)V"⟩, 32), (⟨"MovingThingsModel", "isBehind", "(III)Z"⟩, 32), (⟨"MovingThingsModel", "sizeOf", "(II)I"⟩, 32), (⟨"MovingThingsModel", "touchesPage", "(I)Z"⟩, 32), (⟨"MovingThingsModel", "touches", "(IIII)Z"⟩, 32), (⟨"MovingThingsModel", "touchesLeg", "(I)Z"⟩, 32), (⟨"MovingThingsModel", "mayThin", "(II)I"⟩, 32), (⟨"MovingThingsModel", "layThin", "(II)I"⟩, 32), (⟨"MovingThingsModel", "mayFollow", "(IIII)Z"⟩, 32)]
theorem lw_r4 : ∀ q ∈ lw_privs_4, lw_okq q := List.forall_mem_cons.mpr ⟨lw_p48, List.forall_mem_cons.mpr ⟨lw_p49, List.forall_mem_cons.mpr ⟨lw_p50, List.forall_mem_cons.mpr ⟨lw_p51, List.forall_mem_cons.mpr ⟨lw_p52, List.forall_mem_cons.mpr ⟨lw_p53, List.forall_mem_cons.mpr ⟨lw_p54, List.forall_mem_cons.mpr ⟨lw_p55, List.forall_mem_cons.mpr ⟨lw_p56, List.forall_mem_cons.mpr ⟨lw_p57, List.forall_mem_cons.mpr ⟨lw_p58, List.forall_mem_cons.mpr ⟨lw_p59, List.forall_mem_cons.mpr ⟨lw_p60, List.forall_mem_cons.mpr ⟨lw_p61, List.forall_mem_cons.mpr ⟨lw_p62, List.forall_mem_cons.mpr ⟨lw_p63, fun _ h => absurd h List.not_mem_nil⟩⟩⟩⟩⟩⟩⟩⟩⟩⟩⟩⟩⟩⟩⟩⟩
theorem lw_p64 : lw_okq (⟨"MovingThingsModel", "mayChange", "(II)I"⟩, 32) := ⟨⟨by decide +kernel, by decide +kernel⟩, List.mem_of_getElem? (i := 759) (by decide +kernel), List.mem_of_getElem? (i := 1131) (by decide +kernel), List.mem_of_getElem? (i := 1132) (by decide +kernel)⟩
theorem lw_p65 : lw_okq (⟨"MovingThingsModel", "isInStand", "(III)Z"⟩, 32) := ⟨⟨by decide +kernel, by decide +kernel⟩, List.mem_of_getElem? (i := 759) (by decide +kernel), List.mem_of_getElem? (i := 1135) (by decide +kernel), List.mem_of_getElem? (i := 1136) (by decide +kernel)⟩
theorem lw_p66 : lw_okq (⟨"MovingThingsModel", "loadOf", "(I)I"⟩, 32) := ⟨⟨by decide +kernel, by decide +kernel⟩, List.mem_of_getElem? (i := 759) (by decide +kernel), List.mem_of_getElem? (i := 1151) (by decide +kernel), List.mem_of_getElem? (i := 1152) (by decide +kernel)⟩
theorem lw_p67 : lw_okq (⟨"MovingThingsModel", "bestLoad", "(I)I"⟩, 32) := ⟨⟨by decide +kernel, by decide +kernel⟩, List.mem_of_getElem? (i := 759) (by decide +kernel), List.mem_of_getElem? (i := 1160) (by decide +kernel), List.mem_of_getElem? (i := 1161) (by decide +kernel)⟩
theorem lw_p68 : lw_okq (⟨"MovingThingsModel", "machinesFor", "(II)I"⟩, 32) := ⟨⟨by decide +kernel, by decide +kernel⟩, List.mem_of_getElem? (i := 759) (by decide +kernel), List.mem_of_getElem? (i := 1164) (by decide +kernel), List.mem_of_getElem? (i := 1165) (by decide +kernel)⟩
def lw_privs_5 : List (MethodName × Nat) := [(⟨"MovingThingsModel", "mayChange", "(II)I"⟩, 32), (⟨"MovingThingsModel", "isInStand", "(III)Z"⟩, 32), (⟨"MovingThingsModel", "loadOf", "(I)I"⟩, 32), (⟨"MovingThingsModel", "bestLoad", "(I)I"⟩, 32), (⟨"MovingThingsModel", "machinesFor", "(II)I"⟩, 32)]
theorem lw_r5 : ∀ q ∈ lw_privs_5, lw_okq q := List.forall_mem_cons.mpr ⟨lw_p64, List.forall_mem_cons.mpr ⟨lw_p65, List.forall_mem_cons.mpr ⟨lw_p66, List.forall_mem_cons.mpr ⟨lw_p67, List.forall_mem_cons.mpr ⟨lw_p68, fun _ h => absurd h List.not_mem_nil⟩⟩⟩⟩⟩
def lw_privs : List (MethodName × Nat) := lw_privs_1 ++ (lw_privs_2 ++ (lw_privs_3 ++ (lw_privs_4 ++ (lw_privs_5))))
def lw_tbl : List Cond := k2_sels lw_privs ++ tables_1
theorem lw_privs_ok : ∀ q ∈ lw_privs, lw_okq q := by
  show ∀ q ∈ lw_privs_1 ++ (lw_privs_2 ++ (lw_privs_3 ++ (lw_privs_4 ++ (lw_privs_5)))), lw_okq q
  exact List.forall_mem_append.mpr ⟨lw_r1, List.forall_mem_append.mpr ⟨lw_r2, List.forall_mem_append.mpr ⟨lw_r3, List.forall_mem_append.mpr ⟨lw_r4, lw_r5⟩⟩⟩⟩
def RX0 : String := "MovingThings$Boxes"
def TX0 : u_T := fun k => match k with
  | _ => ("MovingThings$Boxes", "ends", "[I", true)
def tyX0 : Nat → FieldType := fun k => match k with
  | _ => .array .int
theorem nmX0 : ∀ a, a < 1 → ∀ b, b < 1 → a ≠ b → (TX0 a).2.1 ≠ (TX0 b).2.1 := by decide +kernel
theorem tyX0_ok : ∀ k, k < 1 → parseFieldDescriptor (TX0 k).2.2.1 = some (tyX0 k) := by decide +kernel
abbrev cX0_init : ByteArray := prog_2_method_1_code
def yX0_init : MethodName := ⟨RX0, "<init>", "(I)V"⟩
abbrev cX0_setAxis : ByteArray := prog_2_method_2_code
def yX0_setAxis : MethodName := ⟨RX0, "setAxis", "(IIII)V"⟩
abbrev cX0_copyFrom : ByteArray := prog_2_method_3_code
def yX0_copyFrom : MethodName := ⟨RX0, "copyFrom", "(ILMovingThings$Boxes;I)V"⟩
abbrev cX0_widen : ByteArray := prog_2_method_4_code
def yX0_widen : MethodName := ⟨RX0, "widen", "(ILMovingThings$Boxes;I)V"⟩
abbrev cX0_sizeOf : ByteArray := prog_2_method_5_code
def yX0_sizeOf : MethodName := ⟨RX0, "sizeOf", "(I)I"⟩
abbrev cX0_growth : ByteArray := prog_2_method_6_code
def yX0_growth : MethodName := ⟨RX0, "growth", "(ILMovingThings$Boxes;I)I"⟩
abbrev cX0_touch : ByteArray := prog_2_method_7_code
def yX0_touch : MethodName := ⟨RX0, "touch", "(ILMovingThings$Boxes;I)Z"⟩
abbrev cX0_endsSum : ByteArray := prog_2_method_8_code
def yX0_endsSum : MethodName := ⟨RX0, "endsSum", "(II)I"⟩
def RX1 : String := "MovingThings$Columns"
def TX1 : u_T := fun k => match k with
  | _ => ("MovingThings$Columns", "loads", "[I", true)
def tyX1 : Nat → FieldType := fun k => match k with
  | _ => .array .int
theorem nmX1 : ∀ a, a < 1 → ∀ b, b < 1 → a ≠ b → (TX1 a).2.1 ≠ (TX1 b).2.1 := by decide +kernel
theorem tyX1_ok : ∀ k, k < 1 → parseFieldDescriptor (TX1 k).2.2.1 = some (tyX1 k) := by decide +kernel
abbrev cX1_init : ByteArray := prog_3_method_1_code
def yX1_init : MethodName := ⟨RX1, "<init>", "()V"⟩
abbrev cX1_clear : ByteArray := prog_3_method_2_code
def yX1_clear : MethodName := ⟨RX1, "clear", "()V"⟩
abbrev cX1_add : ByteArray := prog_3_method_3_code
def yX1_add : MethodName := ⟨RX1, "add", "(I)V"⟩
abbrev cX1_leastGreatest : ByteArray := prog_3_method_4_code
def yX1_leastGreatest : MethodName := ⟨RX1, "leastGreatest", "(I)I"⟩
abbrev cX1_partOf : ByteArray := prog_3_method_5_code
def yX1_partOf : MethodName := ⟨RX1, "partOf", "(II)I"⟩
abbrev cX1_fits : ByteArray := prog_3_method_6_code
def yX1_fits : MethodName := ⟨RX1, "fits", "(III)Z"⟩
def RX2 : String := "MovingThings$Pages"
def TX2 : u_T := fun k => match k with
  | 0 => ("MovingThings$Pages", "legBoxes", "LMovingThings$Boxes;", true)
  | 1 => ("MovingThings$Pages", "pageBoxes", "LMovingThings$Boxes;", true)
  | 2 => ("MovingThings$Pages", "firstParts", "[I", true)
  | 3 => ("MovingThings$Pages", "heldLegs", "[I", true)
  | 4 => ("MovingThings$Pages", "heldCounts", "[I", true)
  | 5 => ("MovingThings$Pages", "depths", "[I", true)
  | 6 => ("MovingThings$Pages", "opened", "[Z", true)
  | 7 => ("MovingThings$Pages", "order", "[I", true)
  | 8 => ("MovingThings$Pages", "bestOrder", "[I", true)
  | 9 => ("MovingThings$Pages", "trial", "LMovingThings$Boxes;", true)
  | 10 => ("MovingThings$Pages", "wanted", "LMovingThings$Boxes;", true)
  | 11 => ("MovingThings$Pages", "legs", "I", false)
  | 12 => ("MovingThings$Pages", "made", "I", false)
  | 13 => ("MovingThings$Pages", "pagesOpened", "I", false)
  | _ => ("MovingThings$Pages", "legsTouched", "I", false)
def tyX2 : Nat → FieldType := fun k => match k with
  | 0 => .object "MovingThings$Boxes"
  | 1 => .object "MovingThings$Boxes"
  | 2 => .array .int
  | 3 => .array .int
  | 4 => .array .int
  | 5 => .array .int
  | 6 => .array .boolean
  | 7 => .array .int
  | 8 => .array .int
  | 9 => .object "MovingThings$Boxes"
  | 10 => .object "MovingThings$Boxes"
  | 11 => .int
  | 12 => .int
  | 13 => .int
  | _ => .int
theorem nmX2 : ∀ a, a < 15 → ∀ b, b < 15 → a ≠ b → (TX2 a).2.1 ≠ (TX2 b).2.1 := by decide +kernel
theorem tyX2_ok : ∀ k, k < 15 → parseFieldDescriptor (TX2 k).2.2.1 = some (tyX2 k) := by decide +kernel
abbrev cX2_init : ByteArray := prog_4_method_1_code
def yX2_init : MethodName := ⟨RX2, "<init>", "()V"⟩
abbrev cX2_clear : ByteArray := prog_4_method_2_code
def yX2_clear : MethodName := ⟨RX2, "clear", "()V"⟩
abbrev cX2_addLeaf : ByteArray := prog_4_method_3_code
def yX2_addLeaf : MethodName := ⟨RX2, "addLeaf", "()V"⟩
abbrev cX2_takeLeg : ByteArray := prog_4_method_4_code
def yX2_takeLeg : MethodName := ⟨RX2, "takeLeg", "(LMovingThings$Track;I)I"⟩
abbrev cX2_setLegAxis : ByteArray := prog_4_method_5_code
def yX2_setLegAxis : MethodName := ⟨RX2, "setLegAxis", "(II[II)V"⟩
abbrev cX2_partFor : ByteArray := prog_4_method_6_code
def yX2_partFor : MethodName := ⟨RX2, "partFor", "(II)I"⟩
abbrev cX2_hold : ByteArray := prog_4_method_7_code
def yX2_hold : MethodName := ⟨RX2, "hold", "(II)V"⟩
abbrev cX2_cutIfOverfull : ByteArray := prog_4_method_8_code
def yX2_cutIfOverfull : MethodName := ⟨RX2, "cutIfOverfull", "(I)V"⟩
abbrev cX2_chooseCut : ByteArray := prog_4_method_9_code
def yX2_chooseCut : MethodName := ⟨RX2, "chooseCut", "(I)I"⟩
abbrev cX2_sortAlong : ByteArray := prog_4_method_10_code
def yX2_sortAlong : MethodName := ⟨RX2, "sortAlong", "(II)V"⟩
abbrev cX2_isAhead : ByteArray := prog_4_method_11_code
def yX2_isAhead : MethodName := ⟨RX2, "isAhead", "(III)Z"⟩
abbrev cX2_sizeTogether : ByteArray := prog_4_method_12_code
def yX2_sizeTogether : MethodName := ⟨RX2, "sizeTogether", "(II)I"⟩
abbrev cX2_leaves : ByteArray := prog_4_method_13_code
def yX2_leaves : MethodName := ⟨RX2, "leaves", "()I"⟩
abbrev cX2_deepest : ByteArray := prog_4_method_14_code
def yX2_deepest : MethodName := ⟨RX2, "deepest", "()I"⟩
abbrev cX2_leafSizes : ByteArray := prog_4_method_15_code
def yX2_leafSizes : MethodName := ⟨RX2, "leafSizes", "()J"⟩
abbrev cX2_ask : ByteArray := prog_4_method_16_code
def yX2_ask : MethodName := ⟨RX2, "ask", "(LMovingThings$Place;II)V"⟩
abbrev cX2_touchedIn : ByteArray := prog_4_method_17_code
def yX2_touchedIn : MethodName := ⟨RX2, "touchedIn", "(I)I"⟩
def RX3 : String := "MovingThings$Place"
def TX3 : u_T := fun k => match k with
  | 0 => ("MovingThings$Place", "x0", "I", false)
  | 1 => ("MovingThings$Place", "x1", "I", false)
  | 2 => ("MovingThings$Place", "y0", "I", false)
  | _ => ("MovingThings$Place", "y1", "I", false)
def tyX3 : Nat → FieldType := fun k => match k with
  | 0 => .int
  | 1 => .int
  | 2 => .int
  | _ => .int
theorem nmX3 : ∀ a, a < 4 → ∀ b, b < 4 → a ≠ b → (TX3 a).2.1 ≠ (TX3 b).2.1 := by decide +kernel
theorem tyX3_ok : ∀ k, k < 4 → parseFieldDescriptor (TX3 k).2.2.1 = some (tyX3 k) := by decide +kernel
abbrev cX3_init : ByteArray := prog_5_method_1_code
def yX3_init : MethodName := ⟨RX3, "<init>", "()V"⟩
abbrev cX3_set : ByteArray := prog_5_method_2_code
def yX3_set : MethodName := ⟨RX3, "set", "(IIII)V"⟩
abbrev cX3_holds : ByteArray := prog_5_method_3_code
def yX3_holds : MethodName := ⟨RX3, "holds", "(LMovingThings$Spot;)Z"⟩
def RX4 : String := "MovingThings$Ranking"
def TX4 : u_T := fun k => match k with
  | 0 => ("MovingThings$Ranking", "numbers", "[I", true)
  | 1 => ("MovingThings$Ranking", "above", "[J", true)
  | 2 => ("MovingThings$Ranking", "below", "[J", true)
  | _ => ("MovingThings$Ranking", "held", "I", false)
def tyX4 : Nat → FieldType := fun k => match k with
  | 0 => .array .int
  | 1 => .array .long
  | 2 => .array .long
  | _ => .int
theorem nmX4 : ∀ a, a < 4 → ∀ b, b < 4 → a ≠ b → (TX4 a).2.1 ≠ (TX4 b).2.1 := by decide +kernel
theorem tyX4_ok : ∀ k, k < 4 → parseFieldDescriptor (TX4 k).2.2.1 = some (tyX4 k) := by decide +kernel
abbrev cX4_init : ByteArray := prog_6_method_1_code
def yX4_init : MethodName := ⟨RX4, "<init>", "()V"⟩
abbrev cX4_clear : ByteArray := prog_6_method_2_code
def yX4_clear : MethodName := ⟨RX4, "clear", "()V"⟩
abbrev cX4_put : ByteArray := prog_6_method_3_code
def yX4_put : MethodName := ⟨RX4, "put", "(IJJ)V"⟩
abbrev cX4_numberAt : ByteArray := prog_6_method_4_code
def yX4_numberAt : MethodName := ⟨RX4, "numberAt", "(I)I"⟩
def RX5 : String := "MovingThings$Spells"
def TX5 : u_T := fun k => match k with
  | 0 => ("MovingThings$Spells", "firsts", "[I", true)
  | 1 => ("MovingThings$Spells", "lasts", "[I", true)
  | _ => ("MovingThings$Spells", "found", "I", false)
def tyX5 : Nat → FieldType := fun k => match k with
  | 0 => .array .int
  | 1 => .array .int
  | _ => .int
theorem nmX5 : ∀ a, a < 3 → ∀ b, b < 3 → a ≠ b → (TX5 a).2.1 ≠ (TX5 b).2.1 := by decide +kernel
theorem tyX5_ok : ∀ k, k < 3 → parseFieldDescriptor (TX5 k).2.2.1 = some (tyX5 k) := by decide +kernel
abbrev cX5_init : ByteArray := prog_7_method_1_code
def yX5_init : MethodName := ⟨RX5, "<init>", "()V"⟩
abbrev cX5_clear : ByteArray := prog_7_method_2_code
def yX5_clear : MethodName := ⟨RX5, "clear", "()V"⟩
abbrev cX5_add : ByteArray := prog_7_method_3_code
def yX5_add : MethodName := ⟨RX5, "add", "(I)V"⟩
abbrev cX5_lengthOf : ByteArray := prog_7_method_4_code
def yX5_lengthOf : MethodName := ⟨RX5, "lengthOf", "(I)I"⟩
abbrev cX5_longestOne : ByteArray := prog_7_method_5_code
def yX5_longestOne : MethodName := ⟨RX5, "longestOne", "()I"⟩
def RX6 : String := "MovingThings$Spot"
def TX6 : u_T := fun k => match k with
  | 0 => ("MovingThings$Spot", "x", "I", false)
  | 1 => ("MovingThings$Spot", "y", "I", false)
  | _ => ("MovingThings$Spot", "below", "I", false)
def tyX6 : Nat → FieldType := fun k => match k with
  | 0 => .int
  | 1 => .int
  | _ => .int
theorem nmX6 : ∀ a, a < 3 → ∀ b, b < 3 → a ≠ b → (TX6 a).2.1 ≠ (TX6 b).2.1 := by decide +kernel
theorem tyX6_ok : ∀ k, k < 3 → parseFieldDescriptor (TX6 k).2.2.1 = some (tyX6 k) := by decide +kernel
abbrev cX6_init : ByteArray := prog_8_method_1_code
def yX6_init : MethodName := ⟨RX6, "<init>", "()V"⟩
def RX7 : String := "MovingThings$Thinning"
def TX7 : u_T := fun k => match k with
  | 0 => ("MovingThings$Thinning", "rowsKept", "[I", true)
  | 1 => ("MovingThings$Thinning", "fewestFrom", "[I", true)
  | _ => ("MovingThings$Thinning", "keeps", "I", false)
def tyX7 : Nat → FieldType := fun k => match k with
  | 0 => .array .int
  | 1 => .array .int
  | _ => .int
theorem nmX7 : ∀ a, a < 3 → ∀ b, b < 3 → a ≠ b → (TX7 a).2.1 ≠ (TX7 b).2.1 := by decide +kernel
theorem tyX7_ok : ∀ k, k < 3 → parseFieldDescriptor (TX7 k).2.2.1 = some (tyX7 k) := by decide +kernel
abbrev cX7_init : ByteArray := prog_9_method_1_code
def yX7_init : MethodName := ⟨RX7, "<init>", "()V"⟩
abbrev cX7_plan : ByteArray := prog_9_method_2_code
def yX7_plan : MethodName := ⟨RX7, "plan", "(LMovingThings$Track;I)V"⟩
abbrev cX7_keep : ByteArray := prog_9_method_3_code
def yX7_keep : MethodName := ⟨RX7, "keep", "(I)V"⟩
abbrev cX7_countBackwards : ByteArray := prog_9_method_4_code
def yX7_countBackwards : MethodName := ⟨RX7, "countBackwards", "(LMovingThings$Track;I)V"⟩
abbrev cX7_mayFollow : ByteArray := prog_9_method_5_code
def yX7_mayFollow : MethodName := ⟨RX7, "mayFollow", "(LMovingThings$Track;III)Z"⟩
abbrev cX7_isNearLine : ByteArray := prog_9_method_6_code
def yX7_isNearLine : MethodName := ⟨RX7, "isNearLine", "([I[IIIII)Z"⟩
def RX8 : String := "MovingThings$Track"
def TX8 : u_T := fun k => match k with
  | 0 => ("MovingThings$Track", "minutes", "[I", true)
  | 1 => ("MovingThings$Track", "xs", "[I", true)
  | 2 => ("MovingThings$Track", "ys", "[I", true)
  | 3 => ("MovingThings$Track", "rows", "I", false)
  | _ => ("MovingThings$Track", "goesOn", "Z", false)
def tyX8 : Nat → FieldType := fun k => match k with
  | 0 => .array .int
  | 1 => .array .int
  | 2 => .array .int
  | 3 => .int
  | _ => .boolean
theorem nmX8 : ∀ a, a < 5 → ∀ b, b < 5 → a ≠ b → (TX8 a).2.1 ≠ (TX8 b).2.1 := by decide +kernel
theorem tyX8_ok : ∀ k, k < 5 → parseFieldDescriptor (TX8 k).2.2.1 = some (tyX8 k) := by decide +kernel
abbrev cX8_init : ByteArray := prog_10_method_1_code
def yX8_init : MethodName := ⟨RX8, "<init>", "()V"⟩
abbrev cX8_lastRowUpTo : ByteArray := prog_10_method_2_code
def yX8_lastRowUpTo : MethodName := ⟨RX8, "lastRowUpTo", "(I)I"⟩
abbrev cX8_hasRowAt : ByteArray := prog_10_method_3_code
def yX8_hasRowAt : MethodName := ⟨RX8, "hasRowAt", "(I)Z"⟩
abbrev cX8_put : ByteArray := prog_10_method_4_code
def yX8_put : MethodName := ⟨RX8, "put", "(III)V"⟩
abbrev cX8_drop : ByteArray := prog_10_method_5_code
def yX8_drop : MethodName := ⟨RX8, "drop", "(I)V"⟩
abbrev cX8_keepOnly : ByteArray := prog_10_method_6_code
def yX8_keepOnly : MethodName := ⟨RX8, "keepOnly", "([II)V"⟩
abbrev cX8_copyRow : ByteArray := prog_10_method_7_code
def yX8_copyRow : MethodName := ⟨RX8, "copyRow", "(II)V"⟩
abbrev cX8_isLeg : ByteArray := prog_10_method_8_code
def yX8_isLeg : MethodName := ⟨RX8, "isLeg", "(I)Z"⟩
abbrev cX8_locate : ByteArray := prog_10_method_9_code
def yX8_locate : MethodName := ⟨RX8, "locate", "(ILMovingThings$Spot;)Z"⟩
abbrev cX8_locateBehind : ByteArray := prog_10_method_10_code
def yX8_locateBehind : MethodName := ⟨RX8, "locateBehind", "(IILMovingThings$Spot;)Z"⟩
abbrev cX8_standAt : ByteArray := prog_10_method_11_code
def yX8_standAt : MethodName := ⟨RX8, "standAt", "(ILMovingThings$Spot;)V"⟩
abbrev cX8_followLeg : ByteArray := prog_10_method_12_code
def yX8_followLeg : MethodName := ⟨RX8, "followLeg", "(IILMovingThings$Spot;)V"⟩
def RX9 : String := "MovingThings"
def TX9 : u_T := fun k => match k with
  | 0 => ("MovingThings", "tracks", "[LMovingThings$Track;", true)
  | 1 => ("MovingThings", "stands", "[LMovingThings$Place;", true)
  | 2 => ("MovingThings", "asked", "LMovingThings$Place;", true)
  | 3 => ("MovingThings", "spot", "LMovingThings$Spot;", true)
  | 4 => ("MovingThings", "otherSpot", "LMovingThings$Spot;", true)
  | 5 => ("MovingThings", "spells", "LMovingThings$Spells;", true)
  | 6 => ("MovingThings", "ranking", "LMovingThings$Ranking;", true)
  | 7 => ("MovingThings", "tree", "LMovingThings$Pages;", true)
  | 8 => ("MovingThings", "thinning", "LMovingThings$Thinning;", true)
  | 9 => ("MovingThings", "columns", "LMovingThings$Columns;", true)
  | 10 => ("MovingThings", "treeIsOld", "Z", false)
  | 11 => ("MovingThings", "standsMade", "I", false)
  | 12 => ("MovingThings", "rowsMended", "I", false)
  | _ => ("MovingThings", "now", "I", false)
def tyX9 : Nat → FieldType := fun k => match k with
  | 0 => .array (.object "MovingThings$Track")
  | 1 => .array (.object "MovingThings$Place")
  | 2 => .object "MovingThings$Place"
  | 3 => .object "MovingThings$Spot"
  | 4 => .object "MovingThings$Spot"
  | 5 => .object "MovingThings$Spells"
  | 6 => .object "MovingThings$Ranking"
  | 7 => .object "MovingThings$Pages"
  | 8 => .object "MovingThings$Thinning"
  | 9 => .object "MovingThings$Columns"
  | 10 => .boolean
  | 11 => .int
  | 12 => .int
  | _ => .int
theorem nmX9 : ∀ a, a < 14 → ∀ b, b < 14 → a ≠ b → (TX9 a).2.1 ≠ (TX9 b).2.1 := by decide +kernel
theorem tyX9_ok : ∀ k, k < 14 → parseFieldDescriptor (TX9 k).2.2.1 = some (tyX9 k) := by decide +kernel
abbrev cX9_init : ByteArray := prog_1_method_1_code
def yX9_init : MethodName := ⟨RX9, "<init>", "()V"⟩
abbrev cX9_say : ByteArray := prog_1_method_2_code
def yX9_say : MethodName := ⟨RX9, "say", "(IIII)I"⟩
abbrev cX9_forget : ByteArray := prog_1_method_3_code
def yX9_forget : MethodName := ⟨RX9, "forget", "(II)I"⟩
abbrev cX9_kind : ByteArray := prog_1_method_4_code
def yX9_kind : MethodName := ⟨RX9, "kind", "(II)I"⟩
abbrev cX9_row : ByteArray := prog_1_method_5_code
def yX9_row : MethodName := ⟨RX9, "row", "(III)I"⟩
abbrev cX9_at : ByteArray := prog_1_method_6_code
def yX9_at : MethodName := ⟨RX9, "at", "(IIZZ)I"⟩
abbrev cX9_there : ByteArray := prog_1_method_7_code
def yX9_there : MethodName := ⟨RX9, "there", "(II)I"⟩
abbrev cX9_mended : ByteArray := prog_1_method_8_code
def yX9_mended : MethodName := ⟨RX9, "mended", "()I"⟩
abbrev cX9_inside : ByteArray := prog_1_method_9_code
def yX9_inside : MethodName := ⟨RX9, "inside", "(IIIII)I"⟩
abbrev cX9_who : ByteArray := prog_1_method_10_code
def yX9_who : MethodName := ⟨RX9, "who", "(IIIIII)I"⟩
abbrev cX9_visits : ByteArray := prog_1_method_11_code
def yX9_visits : MethodName := ⟨RX9, "visits", "(IIIII)I"⟩
abbrev cX9_visit : ByteArray := prog_1_method_12_code
def yX9_visit : MethodName := ⟨RX9, "visit", "(IIIIIIZ)I"⟩
abbrev cX9_far : ByteArray := prog_1_method_13_code
def yX9_far : MethodName := ⟨RX9, "far", "(IIIZ)J"⟩
abbrev cX9_nearest : ByteArray := prog_1_method_14_code
def yX9_nearest : MethodName := ⟨RX9, "nearest", "(III)I"⟩
abbrev cX9_meetings : ByteArray := prog_1_method_15_code
def yX9_meetings : MethodName := ⟨RX9, "meetings", "(III)I"⟩
abbrev cX9_longest : ByteArray := prog_1_method_16_code
def yX9_longest : MethodName := ⟨RX9, "longest", "(IIIZ)I"⟩
abbrev cX9_pages : ByteArray := prog_1_method_17_code
def yX9_pages : MethodName := ⟨RX9, "pages", "(I)I"⟩
abbrev cX9_size : ByteArray := prog_1_method_18_code
def yX9_size : MethodName := ⟨RX9, "size", "()J"⟩
abbrev cX9_opens : ByteArray := prog_1_method_19_code
def yX9_opens : MethodName := ⟨RX9, "opens", "(IIIIIIZ)I"⟩
abbrev cX9_thin : ByteArray := prog_1_method_20_code
def yX9_thin : MethodName := ⟨RX9, "thin", "(II)I"⟩
abbrev cX9_kept : ByteArray := prog_1_method_21_code
def yX9_kept : MethodName := ⟨RX9, "kept", "(III)I"⟩
abbrev cX9_thinned : ByteArray := prog_1_method_22_code
def yX9_thinned : MethodName := ⟨RX9, "thinned", "(II)I"⟩
abbrev cX9_pass : ByteArray := prog_1_method_23_code
def yX9_pass : MethodName := ⟨RX9, "pass", "(I)I"⟩
abbrev cX9_stand : ByteArray := prog_1_method_24_code
def yX9_stand : MethodName := ⟨RX9, "stand", "(IIII)I"⟩
abbrev cX9_changes : ByteArray := prog_1_method_25_code
def yX9_changes : MethodName := ⟨RX9, "changes", "(II)I"⟩
abbrev cX9_change : ByteArray := prog_1_method_26_code
def yX9_change : MethodName := ⟨RX9, "change", "(III)I"⟩
abbrev cX9_still : ByteArray := prog_1_method_27_code
def yX9_still : MethodName := ⟨RX9, "still", "(II)I"⟩
abbrev cX9_load : ByteArray := prog_1_method_28_code
def yX9_load : MethodName := ⟨RX9, "load", "(I)I"⟩
abbrev cX9_share : ByteArray := prog_1_method_29_code
def yX9_share : MethodName := ⟨RX9, "share", "(I)I"⟩
abbrev cX9_gets : ByteArray := prog_1_method_30_code
def yX9_gets : MethodName := ⟨RX9, "gets", "(II)I"⟩
abbrev cX9_blur : ByteArray := prog_1_method_31_code
def yX9_blur : MethodName := ⟨RX9, "blur", "(IIIIZ)I"⟩
abbrev cX9_together : ByteArray := prog_1_method_32_code
def yX9_together : MethodName := ⟨RX9, "together", "(IIIIII)I"⟩
abbrev cX9_count : ByteArray := prog_1_method_33_code
def yX9_count : MethodName := ⟨RX9, "count", "(I)I"⟩
abbrev cX9_isWithin : ByteArray := prog_1_method_34_code
def yX9_isWithin : MethodName := ⟨RX9, "isWithin", "(III)Z"⟩
abbrev cX9_isThing : ByteArray := prog_1_method_35_code
def yX9_isThing : MethodName := ⟨RX9, "isThing", "(I)Z"⟩
abbrev cX9_isMinute : ByteArray := prog_1_method_36_code
def yX9_isMinute : MethodName := ⟨RX9, "isMinute", "(I)Z"⟩
abbrev cX9_isPlace : ByteArray := prog_1_method_37_code
def yX9_isPlace : MethodName := ⟨RX9, "isPlace", "(IIII)Z"⟩
abbrev cX9_isSpan : ByteArray := prog_1_method_38_code
def yX9_isSpan : MethodName := ⟨RX9, "isSpan", "(II)Z"⟩
abbrev cX9_isBlur : ByteArray := prog_1_method_39_code
def yX9_isBlur : MethodName := ⟨RX9, "isBlur", "(II)Z"⟩
abbrev cX9_isRow : ByteArray := prog_1_method_40_code
def yX9_isRow : MethodName := ⟨RX9, "isRow", "(II)Z"⟩
abbrev cX9_isStand : ByteArray := prog_1_method_41_code
def yX9_isStand : MethodName := ⟨RX9, "isStand", "(I)Z"⟩
abbrev cX9_refuseMoment : ByteArray := prog_1_method_42_code
def yX9_refuseMoment : MethodName := ⟨RX9, "refuseMoment", "(II)I"⟩
abbrev cX9_refuseVisit : ByteArray := prog_1_method_43_code
def yX9_refuseVisit : MethodName := ⟨RX9, "refuseVisit", "(IIIII)I"⟩
abbrev cX9_refuseThinning : ByteArray := prog_1_method_44_code
def yX9_refuseThinning : MethodName := ⟨RX9, "refuseThinning", "(II)I"⟩
abbrev cX9_refuseChange : ByteArray := prog_1_method_45_code
def yX9_refuseChange : MethodName := ⟨RX9, "refuseChange", "(II)I"⟩
abbrev cX9_refuseMeeting : ByteArray := prog_1_method_46_code
def yX9_refuseMeeting : MethodName := ⟨RX9, "refuseMeeting", "(III)I"⟩
abbrev cX9_leastTerm : ByteArray := prog_1_method_47_code
def yX9_leastTerm : MethodName := ⟨RX9, "leastTerm", "(JJZ)J"⟩
abbrev cX9_commonMeasure : ByteArray := prog_1_method_48_code
def yX9_commonMeasure : MethodName := ⟨RX9, "commonMeasure", "(JJ)J"⟩
abbrev cX9_farAbove : ByteArray := prog_1_method_49_code
def yX9_farAbove : MethodName := ⟨RX9, "farAbove", "(LMovingThings$Spot;LMovingThings$Spot;)J"⟩
abbrev cX9_farBelow : ByteArray := prog_1_method_50_code
def yX9_farBelow : MethodName := ⟨RX9, "farBelow", "(LMovingThings$Spot;LMovingThings$Spot;)J"⟩
abbrev cX9_isIn : ByteArray := prog_1_method_51_code
def yX9_isIn : MethodName := ⟨RX9, "isIn", "(LMovingThings$Place;II)Z"⟩
abbrev cX9_isChange : ByteArray := prog_1_method_52_code
def yX9_isChange : MethodName := ⟨RX9, "isChange", "(LMovingThings$Place;II)Z"⟩
abbrev cX9_locateBoth : ByteArray := prog_1_method_53_code
def yX9_locateBoth : MethodName := ⟨RX9, "locateBoth", "(III)Z"⟩
abbrev cX9_isMeeting : ByteArray := prog_1_method_54_code
def yX9_isMeeting : MethodName := ⟨RX9, "isMeeting", "(IIII)Z"⟩
abbrev cX9_gatherVisits : ByteArray := prog_1_method_55_code
def yX9_gatherVisits : MethodName := ⟨RX9, "gatherVisits", "(I)V"⟩
abbrev cX9_gatherMeetings : ByteArray := prog_1_method_56_code
def yX9_gatherMeetings : MethodName := ⟨RX9, "gatherMeetings", "(III)V"⟩
abbrev cX9_allRows : ByteArray := prog_1_method_57_code
def yX9_allRows : MethodName := ⟨RX9, "allRows", "()I"⟩
abbrev cX9_thingsWithRows : ByteArray := prog_1_method_58_code
def yX9_thingsWithRows : MethodName := ⟨RX9, "thingsWithRows", "()I"⟩
abbrev cX9_thingsThere : ByteArray := prog_1_method_59_code
def yX9_thingsThere : MethodName := ⟨RX9, "thingsThere", "()I"⟩
abbrev cX9_refreshTree : ByteArray := prog_1_method_60_code
def yX9_refreshTree : MethodName := ⟨RX9, "refreshTree", "()V"⟩
abbrev cX9_countColumns : ByteArray := prog_1_method_61_code
def yX9_countColumns : MethodName := ⟨RX9, "countColumns", "()V"⟩
abbrev cX9_agreeing : ByteArray := prog_1_method_62_code
def yX9_agreeing : MethodName := ⟨RX9, "agreeing", "(IIIII)I"⟩
def RX10 : String := "MovingThingsModel"
def TX10 : u_T := fun k => match k with
  | 0 => ("MovingThingsModel", "many", "[I", true)
  | 1 => ("MovingThingsModel", "when", "[I", true)
  | 2 => ("MovingThingsModel", "rowX", "[I", true)
  | 3 => ("MovingThingsModel", "rowY", "[I", true)
  | 4 => ("MovingThingsModel", "kinds", "[I", true)
  | 5 => ("MovingThingsModel", "mends", "I", false)
  | 6 => ("MovingThingsModel", "placeX", "J", false)
  | 7 => ("MovingThingsModel", "placeY", "J", false)
  | 8 => ("MovingThingsModel", "below", "J", false)
  | 9 => ("MovingThingsModel", "runs", "I", false)
  | 10 => ("MovingThingsModel", "run", "I", false)
  | 11 => ("MovingThingsModel", "runFrom", "[I", true)
  | 12 => ("MovingThingsModel", "runTo", "[I", true)
  | 13 => ("MovingThingsModel", "farAbove", "J", false)
  | 14 => ("MovingThingsModel", "farBelow", "J", false)
  | 15 => ("MovingThingsModel", "legs", "I", false)
  | 16 => ("MovingThingsModel", "legBox", "[I", true)
  | 17 => ("MovingThingsModel", "pages", "I", false)
  | 18 => ("MovingThingsModel", "pageBox", "[I", true)
  | 19 => ("MovingThingsModel", "isEmpty", "[Z", true)
  | 20 => ("MovingThingsModel", "fork", "[I", true)
  | 21 => ("MovingThingsModel", "depth", "[I", true)
  | 22 => ("MovingThingsModel", "leafMany", "[I", true)
  | 23 => ("MovingThingsModel", "leaf", "[I", true)
  | 24 => ("MovingThingsModel", "sorted", "[I", true)
  | 25 => ("MovingThingsModel", "bestSorted", "[I", true)
  | 26 => ("MovingThingsModel", "box", "[I", true)
  | 27 => ("MovingThingsModel", "fewest", "[I", true)
  | 28 => ("MovingThingsModel", "keeps", "[I", true)
  | 29 => ("MovingThingsModel", "now", "I", false)
  | 30 => ("MovingThingsModel", "stands", "I", false)
  | _ => ("MovingThingsModel", "standBox", "[I", true)
def tyX10 : Nat → FieldType := fun k => match k with
  | 0 => .array .int
  | 1 => .array .int
  | 2 => .array .int
  | 3 => .array .int
  | 4 => .array .int
  | 5 => .int
  | 6 => .long
  | 7 => .long
  | 8 => .long
  | 9 => .int
  | 10 => .int
  | 11 => .array .int
  | 12 => .array .int
  | 13 => .long
  | 14 => .long
  | 15 => .int
  | 16 => .array .int
  | 17 => .int
  | 18 => .array .int
  | 19 => .array .boolean
  | 20 => .array .int
  | 21 => .array .int
  | 22 => .array .int
  | 23 => .array .int
  | 24 => .array .int
  | 25 => .array .int
  | 26 => .array .int
  | 27 => .array .int
  | 28 => .array .int
  | 29 => .int
  | 30 => .int
  | _ => .array .int
theorem nmX10 : ∀ a, a < 32 → ∀ b, b < 32 → a ≠ b → (TX10 a).2.1 ≠ (TX10 b).2.1 := by decide +kernel
theorem tyX10_ok : ∀ k, k < 32 → parseFieldDescriptor (TX10 k).2.2.1 = some (tyX10 k) := by decide +kernel
abbrev cX10_init : ByteArray := prog_12_method_1_code
def yX10_init : MethodName := ⟨RX10, "<init>", "()V"⟩
abbrev cX10_in : ByteArray := prog_12_method_3_code
def yX10_in : MethodName := ⟨RX10, "in", "(JJJ)Z"⟩
abbrev cX10_isThing : ByteArray := prog_12_method_4_code
def yX10_isThing : MethodName := ⟨RX10, "isThing", "(I)Z"⟩
abbrev cX10_isMinute : ByteArray := prog_12_method_5_code
def yX10_isMinute : MethodName := ⟨RX10, "isMinute", "(I)Z"⟩
abbrev cX10_isRow : ByteArray := prog_12_method_6_code
def yX10_isRow : MethodName := ⟨RX10, "isRow", "(II)Z"⟩
abbrev cX10_say : ByteArray := prog_12_method_7_code
def yX10_say : MethodName := ⟨RX10, "say", "(IIII)I"⟩
abbrev cX10_move : ByteArray := prog_12_method_8_code
def yX10_move : MethodName := ⟨RX10, "move", "(III)V"⟩
abbrev cX10_drop : ByteArray := prog_12_method_9_code
def yX10_drop : MethodName := ⟨RX10, "drop", "(II)V"⟩
abbrev cX10_forget : ByteArray := prog_12_method_10_code
def yX10_forget : MethodName := ⟨RX10, "forget", "(II)I"⟩
abbrev cX10_kind : ByteArray := prog_12_method_11_code
def yX10_kind : MethodName := ⟨RX10, "kind", "(II)I"⟩
abbrev cX10_row : ByteArray := prog_12_method_12_code
def yX10_row : MethodName := ⟨RX10, "row", "(III)I"⟩
abbrev cX10_isLeg : ByteArray := prog_12_method_13_code
def yX10_isLeg : MethodName := ⟨RX10, "isLeg", "(II)Z"⟩
abbrev cX10_stand : ByteArray := prog_12_method_14_code
def yX10_stand : MethodName := ⟨RX10, "stand", "(II)V"⟩
abbrev cX10_goBy : ByteArray := prog_12_method_15_code
def yX10_goBy : MethodName := ⟨RX10, "goBy", "(III)V"⟩
abbrev cX10_find : ByteArray := prog_12_method_16_code
def yX10_find : MethodName := ⟨RX10, "find", "(II)Z"⟩
abbrev cX10_common : ByteArray := prog_12_method_17_code
def yX10_common : MethodName := ⟨RX10, "common", "(JJ)J"⟩
abbrev cX10_told : ByteArray := prog_12_method_18_code
def yX10_told : MethodName := ⟨RX10, "told", "(JJZ)J"⟩
abbrev cX10_at : ByteArray := prog_12_method_19_code
def yX10_at : MethodName := ⟨RX10, "at", "(IIZZ)I"⟩
abbrev cX10_there : ByteArray := prog_12_method_20_code
def yX10_there : MethodName := ⟨RX10, "there", "(II)I"⟩
abbrev cX10_mended : ByteArray := prog_12_method_21_code
def yX10_mended : MethodName := ⟨RX10, "mended", "()I"⟩
abbrev cX10_isSpan : ByteArray := prog_12_method_22_code
def yX10_isSpan : MethodName := ⟨RX10, "isSpan", "(II)Z"⟩
abbrev cX10_isIn : ByteArray := prog_12_method_23_code
def yX10_isIn : MethodName := ⟨RX10, "isIn", "(IIIIII)Z"⟩
abbrev cX10_inside : ByteArray := prog_12_method_24_code
def yX10_inside : MethodName := ⟨RX10, "inside", "(IIIII)I"⟩
abbrev cX10_who : ByteArray := prog_12_method_25_code
def yX10_who : MethodName := ⟨RX10, "who", "(IIIIII)I"⟩
abbrev cX10_beginRuns : ByteArray := prog_12_method_26_code
def yX10_beginRuns : MethodName := ⟨RX10, "beginRuns", "()V"⟩
abbrev cX10_meet : ByteArray := prog_12_method_27_code
def yX10_meet : MethodName := ⟨RX10, "meet", "(IZ)V"⟩
abbrev cX10_layVisits : ByteArray := prog_12_method_28_code
def yX10_layVisits : MethodName := ⟨RX10, "layVisits", "(IIIII)V"⟩
abbrev cX10_visits : ByteArray := prog_12_method_29_code
def yX10_visits : MethodName := ⟨RX10, "visits", "(IIIII)I"⟩
abbrev cX10_visit : ByteArray := prog_12_method_30_code
def yX10_visit : MethodName := ⟨RX10, "visit", "(IIIIIIZ)I"⟩
abbrev cX10_layFar : ByteArray := prog_12_method_31_code
def yX10_layFar : MethodName := ⟨RX10, "layFar", "(III)Z"⟩
abbrev cX10_far : ByteArray := prog_12_method_32_code
def yX10_far : MethodName := ⟨RX10, "far", "(IIIZ)J"⟩
abbrev cX10_placeOf : ByteArray := prog_12_method_33_code
def yX10_placeOf : MethodName := ⟨RX10, "placeOf", "(III)I"⟩
abbrev cX10_nearest : ByteArray := prog_12_method_34_code
def yX10_nearest : MethodName := ⟨RX10, "nearest", "(III)I"⟩
abbrev cX10_layMeetings : ByteArray := prog_12_method_35_code
def yX10_layMeetings : MethodName := ⟨RX10, "layMeetings", "(III)V"⟩
abbrev cX10_mayMeet : ByteArray := prog_12_method_36_code
def yX10_mayMeet : MethodName := ⟨RX10, "mayMeet", "(III)I"⟩
abbrev cX10_meetings : ByteArray := prog_12_method_37_code
def yX10_meetings : MethodName := ⟨RX10, "meetings", "(III)I"⟩
abbrev cX10_longest : ByteArray := prog_12_method_38_code
def yX10_longest : MethodName := ⟨RX10, "longest", "(IIIZ)I"⟩
abbrev cX10_layLegs : ByteArray := prog_12_method_39_code
def yX10_layLegs : MethodName := ⟨RX10, "layLegs", "()V"⟩
abbrev cX10_span : ByteArray := prog_12_method_40_code
def yX10_span : MethodName := ⟨RX10, "span", "(III)V"⟩
abbrev cX10_newPage : ByteArray := prog_12_method_41_code
def yX10_newPage : MethodName := ⟨RX10, "newPage", "(I)I"⟩
abbrev cX10_sizeWith : ByteArray := prog_12_method_42_code
def yX10_sizeWith : MethodName := ⟨RX10, "sizeWith", "(II)I"⟩
abbrev cX10_join : ByteArray := prog_12_method_43_code
def yX10_join : MethodName := ⟨RX10, "join", "(II)V"⟩
abbrev cX10_growth : ByteArray := prog_12_method_44_code
def yX10_growth : MethodName := ⟨RX10, "growth", "(II)I"⟩
abbrev cX10_put : ByteArray := prog_12_method_45_code
def yX10_put : MethodName := ⟨RX10, "put", "(II)V"⟩
abbrev cX10_addLeg : ByteArray := prog_12_method_46_code
def yX10_addLeg : MethodName := ⟨RX10, "addLeg", "(I)V"⟩
abbrev cX10_sort : ByteArray := prog_12_method_47_code
def yX10_sort : MethodName := ⟨RX10, "sort", "(II)V"⟩
abbrev cX10_isBehind : ByteArray := prog_12_method_48_code
def yX10_isBehind : MethodName := ⟨RX10, "isBehind", "(III)Z"⟩
abbrev cX10_sizeOf : ByteArray := prog_12_method_49_code
def yX10_sizeOf : MethodName := ⟨RX10, "sizeOf", "(II)I"⟩
abbrev cX10_cut : ByteArray := prog_12_method_50_code
def yX10_cut : MethodName := ⟨RX10, "cut", "(I)V"⟩
abbrev cX10_layPages : ByteArray := prog_12_method_51_code
def yX10_layPages : MethodName := ⟨RX10, "layPages", "()V"⟩
abbrev cX10_pages : ByteArray := prog_12_method_52_code
def yX10_pages : MethodName := ⟨RX10, "pages", "(I)I"⟩
abbrev cX10_size : ByteArray := prog_12_method_53_code
def yX10_size : MethodName := ⟨RX10, "size", "()J"⟩
abbrev cX10_touches : ByteArray := prog_12_method_54_code
def yX10_touches : MethodName := ⟨RX10, "touches", "(IIII)Z"⟩
abbrev cX10_touchesPage : ByteArray := prog_12_method_55_code
def yX10_touchesPage : MethodName := ⟨RX10, "touchesPage", "(I)Z"⟩
abbrev cX10_touchesLeg : ByteArray := prog_12_method_56_code
def yX10_touchesLeg : MethodName := ⟨RX10, "touchesLeg", "(I)Z"⟩
abbrev cX10_opens : ByteArray := prog_12_method_57_code
def yX10_opens : MethodName := ⟨RX10, "opens", "(IIIIIIZ)I"⟩
abbrev cX10_mayFollow : ByteArray := prog_12_method_58_code
def yX10_mayFollow : MethodName := ⟨RX10, "mayFollow", "(IIII)Z"⟩
abbrev cX10_layThin : ByteArray := prog_12_method_59_code
def yX10_layThin : MethodName := ⟨RX10, "layThin", "(II)I"⟩
abbrev cX10_mayThin : ByteArray := prog_12_method_60_code
def yX10_mayThin : MethodName := ⟨RX10, "mayThin", "(II)I"⟩
abbrev cX10_thin : ByteArray := prog_12_method_61_code
def yX10_thin : MethodName := ⟨RX10, "thin", "(II)I"⟩
abbrev cX10_kept : ByteArray := prog_12_method_62_code
def yX10_kept : MethodName := ⟨RX10, "kept", "(III)I"⟩
abbrev cX10_thinned : ByteArray := prog_12_method_63_code
def yX10_thinned : MethodName := ⟨RX10, "thinned", "(II)I"⟩
abbrev cX10_pass : ByteArray := prog_12_method_64_code
def yX10_pass : MethodName := ⟨RX10, "pass", "(I)I"⟩
abbrev cX10_stand_ : ByteArray := prog_12_method_65_code
def yX10_stand_ : MethodName := ⟨RX10, "stand", "(IIII)I"⟩
abbrev cX10_isInStand : ByteArray := prog_12_method_66_code
def yX10_isInStand : MethodName := ⟨RX10, "isInStand", "(III)Z"⟩
abbrev cX10_mayChange : ByteArray := prog_12_method_67_code
def yX10_mayChange : MethodName := ⟨RX10, "mayChange", "(II)I"⟩
abbrev cX10_changes : ByteArray := prog_12_method_68_code
def yX10_changes : MethodName := ⟨RX10, "changes", "(II)I"⟩
abbrev cX10_change : ByteArray := prog_12_method_69_code
def yX10_change : MethodName := ⟨RX10, "change", "(III)I"⟩
abbrev cX10_still : ByteArray := prog_12_method_70_code
def yX10_still : MethodName := ⟨RX10, "still", "(II)I"⟩
abbrev cX10_loadOf : ByteArray := prog_12_method_71_code
def yX10_loadOf : MethodName := ⟨RX10, "loadOf", "(I)I"⟩
abbrev cX10_load : ByteArray := prog_12_method_72_code
def yX10_load : MethodName := ⟨RX10, "load", "(I)I"⟩
abbrev cX10_machinesFor : ByteArray := prog_12_method_73_code
def yX10_machinesFor : MethodName := ⟨RX10, "machinesFor", "(II)I"⟩
abbrev cX10_bestLoad : ByteArray := prog_12_method_74_code
def yX10_bestLoad : MethodName := ⟨RX10, "bestLoad", "(I)I"⟩
abbrev cX10_share : ByteArray := prog_12_method_75_code
def yX10_share : MethodName := ⟨RX10, "share", "(I)I"⟩
abbrev cX10_gets : ByteArray := prog_12_method_76_code
def yX10_gets : MethodName := ⟨RX10, "gets", "(II)I"⟩
abbrev cX10_isBlur : ByteArray := prog_12_method_77_code
def yX10_isBlur : MethodName := ⟨RX10, "isBlur", "(II)Z"⟩
abbrev cX10_blur : ByteArray := prog_12_method_78_code
def yX10_blur : MethodName := ⟨RX10, "blur", "(IIIIZ)I"⟩
abbrev cX10_agreeing : ByteArray := prog_12_method_79_code
def yX10_agreeing : MethodName := ⟨RX10, "agreeing", "(IIIII)I"⟩
abbrev cX10_together : ByteArray := prog_12_method_80_code
def yX10_together : MethodName := ⟨RX10, "together", "(IIIIII)I"⟩
abbrev cX10_count : ByteArray := prog_12_method_81_code
def yX10_count : MethodName := ⟨RX10, "count", "(I)I"⟩
def RL : String := "MovingThingsLaw"
abbrev cL_law : ByteArray := code
def yL_law : MethodName := ⟨RL, "law", "([I)Z"⟩
abbrev vwCl : List vw_C := [(RX0, TX0, 1), (RX1, TX1, 1), (RX2, TX2, 15), (RX3, TX3, 4), (RX4, TX4, 4), (RX5, TX5, 3), (RX6, TX6, 3), (RX7, TX7, 3), (RX8, TX8, 5), (RX9, TX9, 14), (RX10, TX10, 32)]
/-! the universal list of words: those of the tables that stay good over calls -/
def TS : List Cond := lw_tbl.filter goodWord
theorem TS_good : ∀ w ∈ TS, (w.onTables && w.keeps) = true ∨ ∃ ty, w = .arrayClass ty := fun w h => good_of_word (List.mem_filter.mp h).2
theorem TS_tbl : ∀ w ∈ TS, w ∈ lw_tbl := fun w h => (List.mem_filter.mp h).1
theorem tb_1 : ∀ w ∈ tables_1_1, w ∈ lw_tbl := fun w h => List.mem_append_right _ (show w ∈ tables_1_1 ++ (tables_1_2 ++ (tables_1_3 ++ (tables_1_4 ++ tables_1_5))) from List.mem_append_left _ h)
theorem tb_2 : ∀ w ∈ tables_1_2, w ∈ lw_tbl := fun w h => List.mem_append_right _ (show w ∈ tables_1_1 ++ (tables_1_2 ++ (tables_1_3 ++ (tables_1_4 ++ tables_1_5))) from List.mem_append_right _ (List.mem_append_left _ h))
theorem tb_3 : ∀ w ∈ tables_1_3, w ∈ lw_tbl := fun w h => List.mem_append_right _ (show w ∈ tables_1_1 ++ (tables_1_2 ++ (tables_1_3 ++ (tables_1_4 ++ tables_1_5))) from List.mem_append_right _ (List.mem_append_right _ (List.mem_append_left _ h)))
theorem tb_4 : ∀ w ∈ tables_1_4, w ∈ lw_tbl := fun w h => List.mem_append_right _ (show w ∈ tables_1_1 ++ (tables_1_2 ++ (tables_1_3 ++ (tables_1_4 ++ tables_1_5))) from List.mem_append_right _ (List.mem_append_right _ (List.mem_append_right _ (List.mem_append_left _ h))))
theorem tb_5 : ∀ w ∈ tables_1_5, w ∈ lw_tbl := fun w h => List.mem_append_right _ (show w ∈ tables_1_1 ++ (tables_1_2 ++ (tables_1_3 ++ (tables_1_4 ++ tables_1_5))) from List.mem_append_right _ (List.mem_append_right _ (List.mem_append_right _ (List.mem_append_right _ h))))
theorem ini_L : Cond.initialized RL ∈ TS := List.mem_filter.mpr ⟨tb_1 _ (List.mem_of_getElem? (i := 0) rfl), rfl⟩
theorem ini_X9 : Cond.initialized RX9 ∈ TS := List.mem_filter.mpr ⟨tb_1 _ (List.mem_of_getElem? (i := 1) rfl), rfl⟩
theorem ini_X3 : Cond.initialized RX3 ∈ TS := List.mem_filter.mpr ⟨tb_1 _ (List.mem_of_getElem? (i := 2) rfl), rfl⟩
theorem ini_X6 : Cond.initialized RX6 ∈ TS := List.mem_filter.mpr ⟨tb_1 _ (List.mem_of_getElem? (i := 3) rfl), rfl⟩
theorem ini_X5 : Cond.initialized RX5 ∈ TS := List.mem_filter.mpr ⟨tb_1 _ (List.mem_of_getElem? (i := 4) rfl), rfl⟩
theorem ini_X4 : Cond.initialized RX4 ∈ TS := List.mem_filter.mpr ⟨tb_1 _ (List.mem_of_getElem? (i := 5) rfl), rfl⟩
theorem ini_X2 : Cond.initialized RX2 ∈ TS := List.mem_filter.mpr ⟨tb_1 _ (List.mem_of_getElem? (i := 6) rfl), rfl⟩
theorem ini_X0 : Cond.initialized RX0 ∈ TS := List.mem_filter.mpr ⟨tb_1 _ (List.mem_of_getElem? (i := 7) rfl), rfl⟩
theorem ini_Math : Cond.initialized "java/lang/Math" ∈ TS := List.mem_filter.mpr ⟨tb_1 _ (List.mem_of_getElem? (i := 8) rfl), rfl⟩
theorem ini_X7 : Cond.initialized RX7 ∈ TS := List.mem_filter.mpr ⟨tb_1 _ (List.mem_of_getElem? (i := 9) rfl), rfl⟩
theorem ini_X1 : Cond.initialized RX1 ∈ TS := List.mem_filter.mpr ⟨tb_1 _ (List.mem_of_getElem? (i := 10) rfl), rfl⟩
theorem ini_X8 : Cond.initialized RX8 ∈ TS := List.mem_filter.mpr ⟨tb_1 _ (List.mem_of_getElem? (i := 11) rfl), rfl⟩
theorem ini_X10 : Cond.initialized RX10 ∈ TS := List.mem_filter.mpr ⟨tb_1 _ (List.mem_of_getElem? (i := 12) rfl), rfl⟩
theorem ini_System : Cond.initialized "java/lang/System" ∈ TS := List.mem_filter.mpr ⟨tb_1 _ (List.mem_of_getElem? (i := 13) rfl), rfl⟩
theorem cl_L_7 : Cond.classLink RL 7 RX9 ∈ TS := List.mem_filter.mpr ⟨tb_1 _ (List.mem_of_getElem? (i := 14) rfl), rfl⟩
theorem ist_X9 : Cond.instantiable RX9 14 ∈ TS := List.mem_filter.mpr ⟨tb_1 _ (List.mem_of_getElem? (i := 15) rfl), rfl⟩
theorem ml_L_9 : Cond.methodLink RL 9 yX9_init ∈ TS := List.mem_filter.mpr ⟨tb_1 _ (List.mem_of_getElem? (i := 16) rfl), rfl⟩
theorem im_X9_init : Cond.instanceMethod yX9_init ∈ TS := List.mem_filter.mpr ⟨tb_1 _ (List.mem_of_getElem? (i := 17) rfl), rfl⟩
theorem co_X9_init : Cond.code yX9_init cX9_init 2 none ∈ TS := List.mem_filter.mpr ⟨tb_1 _ (List.mem_of_getElem? (i := 18) rfl), rfl⟩
theorem ml_X9_1 : Cond.methodLink RX9 1 objectInit ∈ TS := List.mem_filter.mpr ⟨tb_1 _ (List.mem_of_getElem? (i := 19) rfl), rfl⟩
theorem im_Object_initV : Cond.instanceMethod objectInit ∈ TS := List.mem_filter.mpr ⟨tb_1 _ (List.mem_of_getElem? (i := 20) rfl), rfl⟩
theorem co_Object_initV : Cond.code objectInit ⟨#[0xb1]⟩ 1 none ∈ TS := List.mem_filter.mpr ⟨tb_1 _ (List.mem_of_getElem? (i := 21) rfl), rfl⟩
theorem cl_X9_9 : Cond.classLink RX9 9 RX8 ∈ TS := List.mem_filter.mpr ⟨tb_1 _ (List.mem_of_getElem? (i := 22) rfl), rfl⟩
theorem ao_X8 : Cond.arrayOver (.object RX8) ∈ lw_tbl := tb_1 _ (List.mem_of_getElem? (i := 23) rfl)
theorem cl_X9_15 : Cond.classLink RX9 15 RX3 ∈ TS := List.mem_filter.mpr ⟨tb_1 _ (List.mem_of_getElem? (i := 24) rfl), rfl⟩
theorem ao_X3 : Cond.arrayOver (.object RX3) ∈ lw_tbl := tb_1 _ (List.mem_of_getElem? (i := 25) rfl)
theorem ist_X3 : Cond.instantiable RX3 4 ∈ TS := List.mem_filter.mpr ⟨tb_1 _ (List.mem_of_getElem? (i := 26) rfl), rfl⟩
theorem mn_X9_21 : Cond.methodLinkNest RX9 21 yX3_init RX9 ∈ lw_tbl := tb_1 _ (List.mem_of_getElem? (i := 27) rfl)
theorem im_X3_init : Cond.instanceMethod yX3_init ∈ TS := List.mem_filter.mpr ⟨tb_1 _ (List.mem_of_getElem? (i := 28) rfl), rfl⟩
theorem co_X3_init : Cond.code yX3_init cX3_init 1 none ∈ TS := List.mem_filter.mpr ⟨tb_1 _ (List.mem_of_getElem? (i := 29) rfl), rfl⟩
theorem ml_X3_1 : Cond.methodLink RX3 1 objectInit ∈ TS := List.mem_filter.mpr ⟨tb_1 _ (List.mem_of_getElem? (i := 30) rfl), rfl⟩
theorem fl_X3_7 : Cond.fieldLink RX3 7 "MovingThings$Place" "x0" "I" ∈ TS := List.mem_filter.mpr ⟨tb_1 _ (List.mem_of_getElem? (i := 31) rfl), rfl⟩
theorem fl_X2_140 : Cond.fieldLink RX2 140 "MovingThings$Place" "x0" "I" ∈ TS := List.mem_filter.mpr ⟨tb_1 _ (List.mem_of_getElem? (i := 32) rfl), rfl⟩
theorem fl_X3_13 : Cond.fieldLink RX3 13 "MovingThings$Place" "x1" "I" ∈ TS := List.mem_filter.mpr ⟨tb_1 _ (List.mem_of_getElem? (i := 33) rfl), rfl⟩
theorem fl_X2_145 : Cond.fieldLink RX2 145 "MovingThings$Place" "x1" "I" ∈ TS := List.mem_filter.mpr ⟨tb_1 _ (List.mem_of_getElem? (i := 34) rfl), rfl⟩
theorem fl_X3_16 : Cond.fieldLink RX3 16 "MovingThings$Place" "y0" "I" ∈ TS := List.mem_filter.mpr ⟨tb_1 _ (List.mem_of_getElem? (i := 35) rfl), rfl⟩
theorem fl_X2_148 : Cond.fieldLink RX2 148 "MovingThings$Place" "y0" "I" ∈ TS := List.mem_filter.mpr ⟨tb_1 _ (List.mem_of_getElem? (i := 36) rfl), rfl⟩
theorem fl_X3_19 : Cond.fieldLink RX3 19 "MovingThings$Place" "y1" "I" ∈ TS := List.mem_filter.mpr ⟨tb_1 _ (List.mem_of_getElem? (i := 37) rfl), rfl⟩
theorem fl_X2_151 : Cond.fieldLink RX2 151 "MovingThings$Place" "y1" "I" ∈ TS := List.mem_filter.mpr ⟨tb_1 _ (List.mem_of_getElem? (i := 38) rfl), rfl⟩
theorem cl_X9_26 : Cond.classLink RX9 26 RX6 ∈ TS := List.mem_filter.mpr ⟨tb_1 _ (List.mem_of_getElem? (i := 48) rfl), rfl⟩
theorem ist_X6 : Cond.instantiable RX6 3 ∈ TS := List.mem_filter.mpr ⟨tb_1 _ (List.mem_of_getElem? (i := 49) rfl), rfl⟩
theorem mn_X9_28 : Cond.methodLinkNest RX9 28 yX6_init RX9 ∈ lw_tbl := tb_1 _ (List.mem_of_getElem? (i := 50) rfl)
theorem im_X6_init : Cond.instanceMethod yX6_init ∈ TS := List.mem_filter.mpr ⟨tb_1 _ (List.mem_of_getElem? (i := 51) rfl), rfl⟩
theorem co_X6_init : Cond.code yX6_init cX6_init 1 none ∈ TS := List.mem_filter.mpr ⟨tb_1 _ (List.mem_of_getElem? (i := 52) rfl), rfl⟩
theorem ml_X6_1 : Cond.methodLink RX6 1 objectInit ∈ TS := List.mem_filter.mpr ⟨tb_1 _ (List.mem_of_getElem? (i := 53) rfl), rfl⟩
theorem fl_X6_7 : Cond.fieldLink RX6 7 "MovingThings$Spot" "x" "I" ∈ TS := List.mem_filter.mpr ⟨tb_1 _ (List.mem_of_getElem? (i := 54) rfl), rfl⟩
theorem fl_X3_27 : Cond.fieldLink RX3 27 "MovingThings$Spot" "x" "I" ∈ TS := List.mem_filter.mpr ⟨tb_1 _ (List.mem_of_getElem? (i := 55) rfl), rfl⟩
theorem fl_X9_143 : Cond.fieldLink RX9 143 "MovingThings$Spot" "x" "I" ∈ TS := List.mem_filter.mpr ⟨tb_1 _ (List.mem_of_getElem? (i := 56) rfl), rfl⟩
theorem fl_X8_53 : Cond.fieldLink RX8 53 "MovingThings$Spot" "x" "I" ∈ TS := List.mem_filter.mpr ⟨tb_1 _ (List.mem_of_getElem? (i := 57) rfl), rfl⟩
theorem fl_X6_13 : Cond.fieldLink RX6 13 "MovingThings$Spot" "y" "I" ∈ TS := List.mem_filter.mpr ⟨tb_1 _ (List.mem_of_getElem? (i := 58) rfl), rfl⟩
theorem fl_X3_30 : Cond.fieldLink RX3 30 "MovingThings$Spot" "y" "I" ∈ TS := List.mem_filter.mpr ⟨tb_1 _ (List.mem_of_getElem? (i := 59) rfl), rfl⟩
theorem fl_X9_140 : Cond.fieldLink RX9 140 "MovingThings$Spot" "y" "I" ∈ TS := List.mem_filter.mpr ⟨tb_1 _ (List.mem_of_getElem? (i := 60) rfl), rfl⟩
theorem fl_X8_58 : Cond.fieldLink RX8 58 "MovingThings$Spot" "y" "I" ∈ TS := List.mem_filter.mpr ⟨tb_1 _ (List.mem_of_getElem? (i := 61) rfl), rfl⟩
theorem fl_X6_16 : Cond.fieldLink RX6 16 "MovingThings$Spot" "below" "I" ∈ TS := List.mem_filter.mpr ⟨tb_1 _ (List.mem_of_getElem? (i := 62) rfl), rfl⟩
theorem fl_X3_22 : Cond.fieldLink RX3 22 "MovingThings$Spot" "below" "I" ∈ TS := List.mem_filter.mpr ⟨tb_1 _ (List.mem_of_getElem? (i := 63) rfl), rfl⟩
theorem fl_X9_146 : Cond.fieldLink RX9 146 "MovingThings$Spot" "below" "I" ∈ TS := List.mem_filter.mpr ⟨tb_1 _ (List.mem_of_getElem? (i := 64) rfl), rfl⟩
theorem fl_X8_61 : Cond.fieldLink RX8 61 "MovingThings$Spot" "below" "I" ∈ TS := List.mem_filter.mpr ⟨tb_1 _ (List.mem_of_getElem? (i := 65) rfl), rfl⟩
theorem cl_X9_36 : Cond.classLink RX9 36 RX5 ∈ TS := List.mem_filter.mpr ⟨tb_1 _ (List.mem_of_getElem? (i := 73) rfl), rfl⟩
theorem ist_X5 : Cond.instantiable RX5 3 ∈ TS := List.mem_filter.mpr ⟨tb_1 _ (List.mem_of_getElem? (i := 74) rfl), rfl⟩
theorem mn_X9_38 : Cond.methodLinkNest RX9 38 yX5_init RX9 ∈ lw_tbl := tb_1 _ (List.mem_of_getElem? (i := 75) rfl)
theorem im_X5_init : Cond.instanceMethod yX5_init ∈ TS := List.mem_filter.mpr ⟨tb_1 _ (List.mem_of_getElem? (i := 76) rfl), rfl⟩
theorem co_X5_init : Cond.code yX5_init cX5_init 1 none ∈ TS := List.mem_filter.mpr ⟨tb_1 _ (List.mem_of_getElem? (i := 77) rfl), rfl⟩
theorem ml_X5_3 : Cond.methodLink RX5 3 objectInit ∈ TS := List.mem_filter.mpr ⟨tb_1 _ (List.mem_of_getElem? (i := 78) rfl), rfl⟩
theorem fl_X5_9 : Cond.fieldLink RX5 9 "MovingThings$Spells" "firsts" "[I" ∈ TS := List.mem_filter.mpr ⟨tb_1 _ (List.mem_of_getElem? (i := 79) rfl), rfl⟩
theorem fl_X9_179 : Cond.fieldLink RX9 179 "MovingThings$Spells" "firsts" "[I" ∈ TS := List.mem_filter.mpr ⟨tb_1 _ (List.mem_of_getElem? (i := 80) rfl), rfl⟩
theorem fl_X5_15 : Cond.fieldLink RX5 15 "MovingThings$Spells" "lasts" "[I" ∈ TS := List.mem_filter.mpr ⟨tb_1 _ (List.mem_of_getElem? (i := 81) rfl), rfl⟩
theorem fl_X9_176 : Cond.fieldLink RX9 176 "MovingThings$Spells" "lasts" "[I" ∈ TS := List.mem_filter.mpr ⟨tb_1 _ (List.mem_of_getElem? (i := 82) rfl), rfl⟩
theorem fl_X5_18 : Cond.fieldLink RX5 18 "MovingThings$Spells" "found" "I" ∈ TS := List.mem_filter.mpr ⟨tb_1 _ (List.mem_of_getElem? (i := 83) rfl), rfl⟩
theorem fl_X9_173 : Cond.fieldLink RX9 173 "MovingThings$Spells" "found" "I" ∈ TS := List.mem_filter.mpr ⟨tb_1 _ (List.mem_of_getElem? (i := 84) rfl), rfl⟩
theorem ac_int : Cond.arrayClass .int ∈ TS := List.mem_filter.mpr ⟨tb_1 _ (List.mem_of_getElem? (i := 92) rfl), rfl⟩
theorem cl_X9_43 : Cond.classLink RX9 43 RX4 ∈ TS := List.mem_filter.mpr ⟨tb_1 _ (List.mem_of_getElem? (i := 93) rfl), rfl⟩
theorem ist_X4 : Cond.instantiable RX4 4 ∈ TS := List.mem_filter.mpr ⟨tb_1 _ (List.mem_of_getElem? (i := 94) rfl), rfl⟩
theorem mn_X9_45 : Cond.methodLinkNest RX9 45 yX4_init RX9 ∈ lw_tbl := tb_1 _ (List.mem_of_getElem? (i := 95) rfl)
theorem im_X4_init : Cond.instanceMethod yX4_init ∈ TS := List.mem_filter.mpr ⟨tb_1 _ (List.mem_of_getElem? (i := 96) rfl), rfl⟩
theorem co_X4_init : Cond.code yX4_init cX4_init 1 none ∈ TS := List.mem_filter.mpr ⟨tb_1 _ (List.mem_of_getElem? (i := 97) rfl), rfl⟩
theorem ml_X4_3 : Cond.methodLink RX4 3 objectInit ∈ TS := List.mem_filter.mpr ⟨tb_1 _ (List.mem_of_getElem? (i := 98) rfl), rfl⟩
theorem fl_X4_9 : Cond.fieldLink RX4 9 "MovingThings$Ranking" "numbers" "[I" ∈ TS := List.mem_filter.mpr ⟨tb_1 _ (List.mem_of_getElem? (i := 99) rfl), rfl⟩
theorem fl_X4_15 : Cond.fieldLink RX4 15 "MovingThings$Ranking" "above" "[J" ∈ TS := List.mem_filter.mpr ⟨tb_1 _ (List.mem_of_getElem? (i := 100) rfl), rfl⟩
theorem fl_X4_19 : Cond.fieldLink RX4 19 "MovingThings$Ranking" "below" "[J" ∈ TS := List.mem_filter.mpr ⟨tb_1 _ (List.mem_of_getElem? (i := 101) rfl), rfl⟩
theorem fl_X4_22 : Cond.fieldLink RX4 22 "MovingThings$Ranking" "held" "I" ∈ TS := List.mem_filter.mpr ⟨tb_1 _ (List.mem_of_getElem? (i := 102) rfl), rfl⟩
theorem ac_long : Cond.arrayClass .long ∈ TS := List.mem_filter.mpr ⟨tb_1 _ (List.mem_of_getElem? (i := 112) rfl), rfl⟩
theorem cl_X9_50 : Cond.classLink RX9 50 RX2 ∈ TS := List.mem_filter.mpr ⟨tb_1 _ (List.mem_of_getElem? (i := 113) rfl), rfl⟩
theorem ist_X2 : Cond.instantiable RX2 15 ∈ TS := List.mem_filter.mpr ⟨tb_1 _ (List.mem_of_getElem? (i := 114) rfl), rfl⟩
theorem mn_X9_52 : Cond.methodLinkNest RX9 52 yX2_init RX9 ∈ lw_tbl := tb_1 _ (List.mem_of_getElem? (i := 115) rfl)
theorem im_X2_init : Cond.instanceMethod yX2_init ∈ TS := List.mem_filter.mpr ⟨tb_1 _ (List.mem_of_getElem? (i := 116) rfl), rfl⟩
theorem co_X2_init : Cond.code yX2_init cX2_init 1 none ∈ TS := List.mem_filter.mpr ⟨tb_1 _ (List.mem_of_getElem? (i := 117) rfl), rfl⟩
theorem ml_X2_5 : Cond.methodLink RX2 5 objectInit ∈ TS := List.mem_filter.mpr ⟨tb_1 _ (List.mem_of_getElem? (i := 118) rfl), rfl⟩
theorem cl_X2_11 : Cond.classLink RX2 11 RX0 ∈ TS := List.mem_filter.mpr ⟨tb_1 _ (List.mem_of_getElem? (i := 119) rfl), rfl⟩
theorem ist_X0 : Cond.instantiable RX0 1 ∈ TS := List.mem_filter.mpr ⟨tb_1 _ (List.mem_of_getElem? (i := 120) rfl), rfl⟩
theorem ml_X2_13 : Cond.methodLink RX2 13 yX0_init ∈ TS := List.mem_filter.mpr ⟨tb_1 _ (List.mem_of_getElem? (i := 121) rfl), rfl⟩
theorem im_X0_init : Cond.instanceMethod yX0_init ∈ TS := List.mem_filter.mpr ⟨tb_1 _ (List.mem_of_getElem? (i := 122) rfl), rfl⟩
theorem co_X0_init : Cond.code yX0_init cX0_init 2 none ∈ TS := List.mem_filter.mpr ⟨tb_1 _ (List.mem_of_getElem? (i := 123) rfl), rfl⟩
theorem ml_X0_1 : Cond.methodLink RX0 1 objectInit ∈ TS := List.mem_filter.mpr ⟨tb_1 _ (List.mem_of_getElem? (i := 124) rfl), rfl⟩
theorem ml_X0_7 : Cond.methodLink RX0 7 Lib.Math.max.name ∈ TS := List.mem_filter.mpr ⟨tb_1 _ (List.mem_of_getElem? (i := 125) rfl), rfl⟩
theorem sm_Math_maxII : Cond.static Lib.Math.max.name ∈ TS := List.mem_filter.mpr ⟨tb_1 _ (List.mem_of_getElem? (i := 126) rfl), rfl⟩
theorem co_Math_maxII : Cond.code Lib.Math.max.name Lib.Math.max.code 2 (some .int) ∈ TS := List.mem_filter.mpr ⟨tb_1 _ (List.mem_of_getElem? (i := 127) rfl), rfl⟩
theorem fl_X0_15 : Cond.fieldLink RX0 15 "MovingThings$Boxes" "ends" "[I" ∈ TS := List.mem_filter.mpr ⟨tb_1 _ (List.mem_of_getElem? (i := 128) rfl), rfl⟩
theorem fl_X2_16 : Cond.fieldLink RX2 16 "MovingThings$Pages" "legBoxes" "LMovingThings$Boxes;" ∈ TS := List.mem_filter.mpr ⟨tb_1 _ (List.mem_of_getElem? (i := 132) rfl), rfl⟩
theorem fl_X2_20 : Cond.fieldLink RX2 20 "MovingThings$Pages" "pageBoxes" "LMovingThings$Boxes;" ∈ TS := List.mem_filter.mpr ⟨tb_1 _ (List.mem_of_getElem? (i := 133) rfl), rfl⟩
theorem fl_X2_23 : Cond.fieldLink RX2 23 "MovingThings$Pages" "firstParts" "[I" ∈ TS := List.mem_filter.mpr ⟨tb_1 _ (List.mem_of_getElem? (i := 134) rfl), rfl⟩
theorem fl_X2_27 : Cond.fieldLink RX2 27 "MovingThings$Pages" "heldLegs" "[I" ∈ TS := List.mem_filter.mpr ⟨tb_1 _ (List.mem_of_getElem? (i := 135) rfl), rfl⟩
theorem fl_X2_30 : Cond.fieldLink RX2 30 "MovingThings$Pages" "heldCounts" "[I" ∈ TS := List.mem_filter.mpr ⟨tb_1 _ (List.mem_of_getElem? (i := 136) rfl), rfl⟩
theorem fl_X2_33 : Cond.fieldLink RX2 33 "MovingThings$Pages" "depths" "[I" ∈ TS := List.mem_filter.mpr ⟨tb_1 _ (List.mem_of_getElem? (i := 137) rfl), rfl⟩
theorem fl_X2_36 : Cond.fieldLink RX2 36 "MovingThings$Pages" "opened" "[Z" ∈ TS := List.mem_filter.mpr ⟨tb_1 _ (List.mem_of_getElem? (i := 138) rfl), rfl⟩
theorem fl_X2_40 : Cond.fieldLink RX2 40 "MovingThings$Pages" "order" "[I" ∈ TS := List.mem_filter.mpr ⟨tb_1 _ (List.mem_of_getElem? (i := 139) rfl), rfl⟩
theorem fl_X2_43 : Cond.fieldLink RX2 43 "MovingThings$Pages" "bestOrder" "[I" ∈ TS := List.mem_filter.mpr ⟨tb_1 _ (List.mem_of_getElem? (i := 140) rfl), rfl⟩
theorem fl_X2_46 : Cond.fieldLink RX2 46 "MovingThings$Pages" "trial" "LMovingThings$Boxes;" ∈ TS := List.mem_filter.mpr ⟨tb_1 _ (List.mem_of_getElem? (i := 141) rfl), rfl⟩
theorem fl_X2_49 : Cond.fieldLink RX2 49 "MovingThings$Pages" "wanted" "LMovingThings$Boxes;" ∈ TS := List.mem_filter.mpr ⟨tb_1 _ (List.mem_of_getElem? (i := 142) rfl), rfl⟩
theorem fl_X2_52 : Cond.fieldLink RX2 52 "MovingThings$Pages" "legs" "I" ∈ TS := List.mem_filter.mpr ⟨tb_1 _ (List.mem_of_getElem? (i := 143) rfl), rfl⟩
theorem fl_X9_225 : Cond.fieldLink RX9 225 "MovingThings$Pages" "legs" "I" ∈ TS := List.mem_filter.mpr ⟨tb_1 _ (List.mem_of_getElem? (i := 144) rfl), rfl⟩
theorem fl_X2_56 : Cond.fieldLink RX2 56 "MovingThings$Pages" "made" "I" ∈ TS := List.mem_filter.mpr ⟨tb_1 _ (List.mem_of_getElem? (i := 145) rfl), rfl⟩
theorem fl_X9_228 : Cond.fieldLink RX9 228 "MovingThings$Pages" "made" "I" ∈ TS := List.mem_filter.mpr ⟨tb_1 _ (List.mem_of_getElem? (i := 146) rfl), rfl⟩
theorem fl_X2_59 : Cond.fieldLink RX2 59 "MovingThings$Pages" "pagesOpened" "I" ∈ TS := List.mem_filter.mpr ⟨tb_1 _ (List.mem_of_getElem? (i := 147) rfl), rfl⟩
theorem fl_X9_248 : Cond.fieldLink RX9 248 "MovingThings$Pages" "pagesOpened" "I" ∈ TS := List.mem_filter.mpr ⟨tb_1 _ (List.mem_of_getElem? (i := 148) rfl), rfl⟩
theorem fl_X2_62 : Cond.fieldLink RX2 62 "MovingThings$Pages" "legsTouched" "I" ∈ TS := List.mem_filter.mpr ⟨tb_1 _ (List.mem_of_getElem? (i := 149) rfl), rfl⟩
theorem fl_X9_245 : Cond.fieldLink RX9 245 "MovingThings$Pages" "legsTouched" "I" ∈ TS := List.mem_filter.mpr ⟨tb_1 _ (List.mem_of_getElem? (i := 150) rfl), rfl⟩
theorem ac_boolean : Cond.arrayClass .boolean ∈ TS := List.mem_filter.mpr ⟨tb_1 _ (List.mem_of_getElem? (i := 182) rfl), rfl⟩
theorem cl_X9_57 : Cond.classLink RX9 57 RX7 ∈ TS := List.mem_filter.mpr ⟨tb_1 _ (List.mem_of_getElem? (i := 183) rfl), rfl⟩
theorem ist_X7 : Cond.instantiable RX7 3 ∈ TS := List.mem_filter.mpr ⟨tb_1 _ (List.mem_of_getElem? (i := 184) rfl), rfl⟩
theorem mn_X9_59 : Cond.methodLinkNest RX9 59 yX7_init RX9 ∈ lw_tbl := tb_1 _ (List.mem_of_getElem? (i := 185) rfl)
theorem im_X7_init : Cond.instanceMethod yX7_init ∈ TS := List.mem_filter.mpr ⟨tb_1 _ (List.mem_of_getElem? (i := 186) rfl), rfl⟩
theorem co_X7_init : Cond.code yX7_init cX7_init 1 none ∈ TS := List.mem_filter.mpr ⟨tb_1 _ (List.mem_of_getElem? (i := 187) rfl), rfl⟩
theorem ml_X7_3 : Cond.methodLink RX7 3 objectInit ∈ TS := List.mem_filter.mpr ⟨tb_1 _ (List.mem_of_getElem? (i := 188) rfl), rfl⟩
theorem fl_X7_9 : Cond.fieldLink RX7 9 "MovingThings$Thinning" "rowsKept" "[I" ∈ TS := List.mem_filter.mpr ⟨tb_1 _ (List.mem_of_getElem? (i := 189) rfl), rfl⟩
theorem fl_X9_261 : Cond.fieldLink RX9 261 "MovingThings$Thinning" "rowsKept" "[I" ∈ TS := List.mem_filter.mpr ⟨tb_1 _ (List.mem_of_getElem? (i := 190) rfl), rfl⟩
theorem fl_X7_15 : Cond.fieldLink RX7 15 "MovingThings$Thinning" "fewestFrom" "[I" ∈ TS := List.mem_filter.mpr ⟨tb_1 _ (List.mem_of_getElem? (i := 191) rfl), rfl⟩
theorem fl_X7_18 : Cond.fieldLink RX7 18 "MovingThings$Thinning" "keeps" "I" ∈ TS := List.mem_filter.mpr ⟨tb_1 _ (List.mem_of_getElem? (i := 192) rfl), rfl⟩
theorem fl_X9_258 : Cond.fieldLink RX9 258 "MovingThings$Thinning" "keeps" "I" ∈ TS := List.mem_filter.mpr ⟨tb_1 _ (List.mem_of_getElem? (i := 193) rfl), rfl⟩
theorem cl_X9_64 : Cond.classLink RX9 64 RX1 ∈ TS := List.mem_filter.mpr ⟨tb_1 _ (List.mem_of_getElem? (i := 201) rfl), rfl⟩
theorem ist_X1 : Cond.instantiable RX1 1 ∈ TS := List.mem_filter.mpr ⟨tb_1 _ (List.mem_of_getElem? (i := 202) rfl), rfl⟩
theorem mn_X9_66 : Cond.methodLinkNest RX9 66 yX1_init RX9 ∈ lw_tbl := tb_1 _ (List.mem_of_getElem? (i := 203) rfl)
theorem im_X1_init : Cond.instanceMethod yX1_init ∈ TS := List.mem_filter.mpr ⟨tb_1 _ (List.mem_of_getElem? (i := 204) rfl), rfl⟩
theorem co_X1_init : Cond.code yX1_init cX1_init 1 none ∈ TS := List.mem_filter.mpr ⟨tb_1 _ (List.mem_of_getElem? (i := 205) rfl), rfl⟩
theorem ml_X1_3 : Cond.methodLink RX1 3 objectInit ∈ TS := List.mem_filter.mpr ⟨tb_1 _ (List.mem_of_getElem? (i := 206) rfl), rfl⟩
theorem fl_X1_9 : Cond.fieldLink RX1 9 "MovingThings$Columns" "loads" "[I" ∈ TS := List.mem_filter.mpr ⟨tb_1 _ (List.mem_of_getElem? (i := 207) rfl), rfl⟩
theorem fl_X9_280 : Cond.fieldLink RX9 280 "MovingThings$Columns" "loads" "[I" ∈ TS := List.mem_filter.mpr ⟨tb_1 _ (List.mem_of_getElem? (i := 208) rfl), rfl⟩
theorem ist_X8 : Cond.instantiable RX8 5 ∈ TS := List.mem_filter.mpr ⟨tb_1 _ (List.mem_of_getElem? (i := 212) rfl), rfl⟩
theorem mn_X9_85 : Cond.methodLinkNest RX9 85 yX8_init RX9 ∈ lw_tbl := tb_1 _ (List.mem_of_getElem? (i := 213) rfl)
theorem im_X8_init : Cond.instanceMethod yX8_init ∈ TS := List.mem_filter.mpr ⟨tb_1 _ (List.mem_of_getElem? (i := 214) rfl), rfl⟩
theorem co_X8_init : Cond.code yX8_init cX8_init 1 none ∈ TS := List.mem_filter.mpr ⟨tb_1 _ (List.mem_of_getElem? (i := 215) rfl), rfl⟩
theorem ml_X8_3 : Cond.methodLink RX8 3 objectInit ∈ TS := List.mem_filter.mpr ⟨tb_1 _ (List.mem_of_getElem? (i := 216) rfl), rfl⟩
theorem fl_X8_9 : Cond.fieldLink RX8 9 "MovingThings$Track" "minutes" "[I" ∈ TS := List.mem_filter.mpr ⟨tb_1 _ (List.mem_of_getElem? (i := 217) rfl), rfl⟩
theorem fl_X2_80 : Cond.fieldLink RX2 80 "MovingThings$Track" "minutes" "[I" ∈ TS := List.mem_filter.mpr ⟨tb_1 _ (List.mem_of_getElem? (i := 218) rfl), rfl⟩
theorem fl_X7_39 : Cond.fieldLink RX7 39 "MovingThings$Track" "minutes" "[I" ∈ TS := List.mem_filter.mpr ⟨tb_1 _ (List.mem_of_getElem? (i := 219) rfl), rfl⟩
theorem fl_X9_121 : Cond.fieldLink RX9 121 "MovingThings$Track" "minutes" "[I" ∈ TS := List.mem_filter.mpr ⟨tb_1 _ (List.mem_of_getElem? (i := 220) rfl), rfl⟩
theorem fl_X8_15 : Cond.fieldLink RX8 15 "MovingThings$Track" "xs" "[I" ∈ TS := List.mem_filter.mpr ⟨tb_1 _ (List.mem_of_getElem? (i := 221) rfl), rfl⟩
theorem fl_X2_68 : Cond.fieldLink RX2 68 "MovingThings$Track" "xs" "[I" ∈ TS := List.mem_filter.mpr ⟨tb_1 _ (List.mem_of_getElem? (i := 222) rfl), rfl⟩
theorem fl_X7_42 : Cond.fieldLink RX7 42 "MovingThings$Track" "xs" "[I" ∈ TS := List.mem_filter.mpr ⟨tb_1 _ (List.mem_of_getElem? (i := 223) rfl), rfl⟩
theorem fl_X9_125 : Cond.fieldLink RX9 125 "MovingThings$Track" "xs" "[I" ∈ TS := List.mem_filter.mpr ⟨tb_1 _ (List.mem_of_getElem? (i := 224) rfl), rfl⟩
theorem fl_X8_18 : Cond.fieldLink RX8 18 "MovingThings$Track" "ys" "[I" ∈ TS := List.mem_filter.mpr ⟨tb_1 _ (List.mem_of_getElem? (i := 225) rfl), rfl⟩
theorem fl_X2_77 : Cond.fieldLink RX2 77 "MovingThings$Track" "ys" "[I" ∈ TS := List.mem_filter.mpr ⟨tb_1 _ (List.mem_of_getElem? (i := 226) rfl), rfl⟩
theorem fl_X7_49 : Cond.fieldLink RX7 49 "MovingThings$Track" "ys" "[I" ∈ TS := List.mem_filter.mpr ⟨tb_1 _ (List.mem_of_getElem? (i := 227) rfl), rfl⟩
theorem fl_X9_128 : Cond.fieldLink RX9 128 "MovingThings$Track" "ys" "[I" ∈ TS := List.mem_filter.mpr ⟨tb_1 _ (List.mem_of_getElem? (i := 228) rfl), rfl⟩
theorem fl_X8_21 : Cond.fieldLink RX8 21 "MovingThings$Track" "rows" "I" ∈ TS := List.mem_filter.mpr ⟨tb_1 _ (List.mem_of_getElem? (i := 229) rfl), rfl⟩
theorem fl_X7_22 : Cond.fieldLink RX7 22 "MovingThings$Track" "rows" "I" ∈ TS := List.mem_filter.mpr ⟨tb_1 _ (List.mem_of_getElem? (i := 230) rfl), rfl⟩
theorem fl_X9_102 : Cond.fieldLink RX9 102 "MovingThings$Track" "rows" "I" ∈ TS := List.mem_filter.mpr ⟨tb_1 _ (List.mem_of_getElem? (i := 231) rfl), rfl⟩
theorem fl_X8_25 : Cond.fieldLink RX8 25 "MovingThings$Track" "goesOn" "Z" ∈ TS := List.mem_filter.mpr ⟨tb_1 _ (List.mem_of_getElem? (i := 232) rfl), rfl⟩
theorem fl_X9_118 : Cond.fieldLink RX9 118 "MovingThings$Track" "goesOn" "Z" ∈ TS := List.mem_filter.mpr ⟨tb_1 _ (List.mem_of_getElem? (i := 233) rfl), rfl⟩
theorem fl_X9_11 : Cond.fieldLink RX9 11 "MovingThings" "tracks" "[LMovingThings$Track;" ∈ TS := List.mem_filter.mpr ⟨tb_2 _ (List.mem_of_getElem? (i := 5) rfl), rfl⟩
theorem fl_X9_17 : Cond.fieldLink RX9 17 "MovingThings" "stands" "[LMovingThings$Place;" ∈ TS := List.mem_filter.mpr ⟨tb_2 _ (List.mem_of_getElem? (i := 6) rfl), rfl⟩
theorem fl_X9_22 : Cond.fieldLink RX9 22 "MovingThings" "asked" "LMovingThings$Place;" ∈ TS := List.mem_filter.mpr ⟨tb_2 _ (List.mem_of_getElem? (i := 7) rfl), rfl⟩
theorem fl_X9_29 : Cond.fieldLink RX9 29 "MovingThings" "spot" "LMovingThings$Spot;" ∈ TS := List.mem_filter.mpr ⟨tb_2 _ (List.mem_of_getElem? (i := 8) rfl), rfl⟩
theorem fl_X9_33 : Cond.fieldLink RX9 33 "MovingThings" "otherSpot" "LMovingThings$Spot;" ∈ TS := List.mem_filter.mpr ⟨tb_2 _ (List.mem_of_getElem? (i := 9) rfl), rfl⟩
theorem fl_X9_39 : Cond.fieldLink RX9 39 "MovingThings" "spells" "LMovingThings$Spells;" ∈ TS := List.mem_filter.mpr ⟨tb_2 _ (List.mem_of_getElem? (i := 10) rfl), rfl⟩
theorem fl_X9_46 : Cond.fieldLink RX9 46 "MovingThings" "ranking" "LMovingThings$Ranking;" ∈ TS := List.mem_filter.mpr ⟨tb_2 _ (List.mem_of_getElem? (i := 11) rfl), rfl⟩
theorem fl_X9_53 : Cond.fieldLink RX9 53 "MovingThings" "tree" "LMovingThings$Pages;" ∈ TS := List.mem_filter.mpr ⟨tb_2 _ (List.mem_of_getElem? (i := 12) rfl), rfl⟩
theorem fl_X9_60 : Cond.fieldLink RX9 60 "MovingThings" "thinning" "LMovingThings$Thinning;" ∈ TS := List.mem_filter.mpr ⟨tb_2 _ (List.mem_of_getElem? (i := 13) rfl), rfl⟩
theorem fl_X9_67 : Cond.fieldLink RX9 67 "MovingThings" "columns" "LMovingThings$Columns;" ∈ TS := List.mem_filter.mpr ⟨tb_2 _ (List.mem_of_getElem? (i := 14) rfl), rfl⟩
theorem fl_X9_71 : Cond.fieldLink RX9 71 "MovingThings" "treeIsOld" "Z" ∈ TS := List.mem_filter.mpr ⟨tb_2 _ (List.mem_of_getElem? (i := 15) rfl), rfl⟩
theorem fl_X9_75 : Cond.fieldLink RX9 75 "MovingThings" "standsMade" "I" ∈ TS := List.mem_filter.mpr ⟨tb_2 _ (List.mem_of_getElem? (i := 16) rfl), rfl⟩
theorem fl_X9_79 : Cond.fieldLink RX9 79 "MovingThings" "rowsMended" "I" ∈ TS := List.mem_filter.mpr ⟨tb_2 _ (List.mem_of_getElem? (i := 17) rfl), rfl⟩
theorem fl_X9_82 : Cond.fieldLink RX9 82 "MovingThings" "now" "I" ∈ TS := List.mem_filter.mpr ⟨tb_2 _ (List.mem_of_getElem? (i := 18) rfl), rfl⟩
theorem ml_L_13 : Cond.methodLink RL 13 yX9_say ∈ TS := List.mem_filter.mpr ⟨tb_2 _ (List.mem_of_getElem? (i := 48) rfl), rfl⟩
theorem im_X9_say : Cond.instanceMethod yX9_say ∈ TS := List.mem_filter.mpr ⟨tb_2 _ (List.mem_of_getElem? (i := 49) rfl), rfl⟩
theorem se_X9_say : Cond.selects RX9 yX9_say yX9_say ∈ TS := List.mem_filter.mpr ⟨tb_2 _ (List.mem_of_getElem? (i := 50) rfl), rfl⟩
theorem co_X9_say : Cond.code yX9_say cX9_say 6 (some .int) ∈ TS := List.mem_filter.mpr ⟨tb_2 _ (List.mem_of_getElem? (i := 51) rfl), rfl⟩
theorem ml_X9_86 : Cond.methodLink RX9 86 yX9_isThing ∈ TS := List.mem_filter.mpr ⟨tb_2 _ (List.mem_of_getElem? (i := 52) rfl), rfl⟩
theorem sm_X9_isThing : Cond.static yX9_isThing ∈ TS := List.mem_filter.mpr ⟨tb_2 _ (List.mem_of_getElem? (i := 53) rfl), rfl⟩
theorem co_X9_isThing : Cond.code yX9_isThing cX9_isThing 1 (some .boolean) ∈ TS := List.mem_filter.mpr ⟨tb_2 _ (List.mem_of_getElem? (i := 54) rfl), rfl⟩
theorem ml_X9_94 : Cond.methodLink RX9 94 yX9_isWithin ∈ TS := List.mem_filter.mpr ⟨tb_2 _ (List.mem_of_getElem? (i := 55) rfl), rfl⟩
theorem sm_X9_isWithin : Cond.static yX9_isWithin ∈ TS := List.mem_filter.mpr ⟨tb_2 _ (List.mem_of_getElem? (i := 56) rfl), rfl⟩
theorem co_X9_isWithin : Cond.code yX9_isWithin cX9_isWithin 3 (some .boolean) ∈ TS := List.mem_filter.mpr ⟨tb_2 _ (List.mem_of_getElem? (i := 57) rfl), rfl⟩
theorem kc_X9_90 : Cond.constant RX9 90 (-900001) ∈ TS := List.mem_filter.mpr ⟨tb_2 _ (List.mem_of_getElem? (i := 58) rfl), rfl⟩
theorem ml_X9_91 : Cond.methodLink RX9 91 yX9_isMinute ∈ TS := List.mem_filter.mpr ⟨tb_2 _ (List.mem_of_getElem? (i := 59) rfl), rfl⟩
theorem sm_X9_isMinute : Cond.static yX9_isMinute ∈ TS := List.mem_filter.mpr ⟨tb_2 _ (List.mem_of_getElem? (i := 60) rfl), rfl⟩
theorem co_X9_isMinute : Cond.code yX9_isMinute cX9_isMinute 1 (some .boolean) ∈ TS := List.mem_filter.mpr ⟨tb_2 _ (List.mem_of_getElem? (i := 61) rfl), rfl⟩
theorem kc_X9_98 : Cond.constant RX9 98 (-900002) ∈ TS := List.mem_filter.mpr ⟨tb_2 _ (List.mem_of_getElem? (i := 62) rfl), rfl⟩
theorem ml_X9_99 : Cond.methodLink RX9 99 yX8_hasRowAt ∈ TS := List.mem_filter.mpr ⟨tb_2 _ (List.mem_of_getElem? (i := 63) rfl), rfl⟩
theorem im_X8_hasRowAt : Cond.instanceMethod yX8_hasRowAt ∈ TS := List.mem_filter.mpr ⟨tb_2 _ (List.mem_of_getElem? (i := 64) rfl), rfl⟩
theorem se_X8_hasRowAt : Cond.selects RX8 yX8_hasRowAt yX8_hasRowAt ∈ TS := List.mem_filter.mpr ⟨tb_2 _ (List.mem_of_getElem? (i := 65) rfl), rfl⟩
theorem co_X8_hasRowAt : Cond.code yX8_hasRowAt cX8_hasRowAt 3 (some .boolean) ∈ TS := List.mem_filter.mpr ⟨tb_2 _ (List.mem_of_getElem? (i := 66) rfl), rfl⟩
theorem ml_X8_29 : Cond.methodLink RX8 29 yX8_lastRowUpTo ∈ TS := List.mem_filter.mpr ⟨tb_2 _ (List.mem_of_getElem? (i := 67) rfl), rfl⟩
theorem im_X8_lastRowUpTo : Cond.instanceMethod yX8_lastRowUpTo ∈ TS := List.mem_filter.mpr ⟨tb_2 _ (List.mem_of_getElem? (i := 68) rfl), rfl⟩
theorem se_X8_lastRowUpTo : Cond.selects RX8 yX8_lastRowUpTo yX8_lastRowUpTo ∈ TS := List.mem_filter.mpr ⟨tb_2 _ (List.mem_of_getElem? (i := 69) rfl), rfl⟩
theorem co_X8_lastRowUpTo : Cond.code yX8_lastRowUpTo cX8_lastRowUpTo 6 (some .int) ∈ TS := List.mem_filter.mpr ⟨tb_2 _ (List.mem_of_getElem? (i := 70) rfl), rfl⟩
theorem kc_X9_105 : Cond.constant RX9 105 (-900004) ∈ TS := List.mem_filter.mpr ⟨tb_2 _ (List.mem_of_getElem? (i := 71) rfl), rfl⟩
theorem ml_X9_106 : Cond.methodLink RX9 106 yX8_put ∈ TS := List.mem_filter.mpr ⟨tb_2 _ (List.mem_of_getElem? (i := 72) rfl), rfl⟩
theorem im_X8_put : Cond.instanceMethod yX8_put ∈ TS := List.mem_filter.mpr ⟨tb_2 _ (List.mem_of_getElem? (i := 73) rfl), rfl⟩
theorem se_X8_put : Cond.selects RX8 yX8_put yX8_put ∈ TS := List.mem_filter.mpr ⟨tb_2 _ (List.mem_of_getElem? (i := 74) rfl), rfl⟩
theorem co_X8_put : Cond.code yX8_put cX8_put 6 none ∈ TS := List.mem_filter.mpr ⟨tb_2 _ (List.mem_of_getElem? (i := 75) rfl), rfl⟩
theorem ml_X8_33 : Cond.methodLink RX8 33 yX8_copyRow ∈ TS := List.mem_filter.mpr ⟨tb_2 _ (List.mem_of_getElem? (i := 76) rfl), rfl⟩
theorem im_X8_copyRow : Cond.instanceMethod yX8_copyRow ∈ TS := List.mem_filter.mpr ⟨tb_2 _ (List.mem_of_getElem? (i := 78) rfl), rfl⟩
theorem co_X8_copyRow : Cond.code yX8_copyRow cX8_copyRow 3 none ∈ TS := List.mem_filter.mpr ⟨tb_2 _ (List.mem_of_getElem? (i := 79) rfl), rfl⟩
theorem ml_L_18 : Cond.methodLink RL 18 yX9_forget ∈ TS := List.mem_filter.mpr ⟨tb_2 _ (List.mem_of_getElem? (i := 80) rfl), rfl⟩
theorem im_X9_forget : Cond.instanceMethod yX9_forget ∈ TS := List.mem_filter.mpr ⟨tb_2 _ (List.mem_of_getElem? (i := 81) rfl), rfl⟩
theorem se_X9_forget : Cond.selects RX9 yX9_forget yX9_forget ∈ TS := List.mem_filter.mpr ⟨tb_2 _ (List.mem_of_getElem? (i := 82) rfl), rfl⟩
theorem co_X9_forget : Cond.code yX9_forget cX9_forget 3 (some .int) ∈ TS := List.mem_filter.mpr ⟨tb_2 _ (List.mem_of_getElem? (i := 83) rfl), rfl⟩
theorem ml_X9_110 : Cond.methodLink RX9 110 yX9_isRow ∈ TS := List.mem_filter.mpr ⟨tb_2 _ (List.mem_of_getElem? (i := 84) rfl), rfl⟩
theorem im_X9_isRow : Cond.instanceMethod yX9_isRow ∈ TS := List.mem_filter.mpr ⟨tb_2 _ (List.mem_of_getElem? (i := 86) rfl), rfl⟩
theorem co_X9_isRow : Cond.code yX9_isRow cX9_isRow 3 (some .boolean) ∈ TS := List.mem_filter.mpr ⟨tb_2 _ (List.mem_of_getElem? (i := 87) rfl), rfl⟩
theorem ml_X9_114 : Cond.methodLink RX9 114 yX8_drop ∈ TS := List.mem_filter.mpr ⟨tb_2 _ (List.mem_of_getElem? (i := 88) rfl), rfl⟩
theorem im_X8_drop : Cond.instanceMethod yX8_drop ∈ TS := List.mem_filter.mpr ⟨tb_2 _ (List.mem_of_getElem? (i := 89) rfl), rfl⟩
theorem se_X8_drop : Cond.selects RX8 yX8_drop yX8_drop ∈ TS := List.mem_filter.mpr ⟨tb_2 _ (List.mem_of_getElem? (i := 90) rfl), rfl⟩
theorem co_X8_drop : Cond.code yX8_drop cX8_drop 3 none ∈ TS := List.mem_filter.mpr ⟨tb_2 _ (List.mem_of_getElem? (i := 91) rfl), rfl⟩
theorem ml_L_23 : Cond.methodLink RL 23 yX9_kind ∈ TS := List.mem_filter.mpr ⟨tb_2 _ (List.mem_of_getElem? (i := 92) rfl), rfl⟩
theorem im_X9_kind : Cond.instanceMethod yX9_kind ∈ TS := List.mem_filter.mpr ⟨tb_2 _ (List.mem_of_getElem? (i := 93) rfl), rfl⟩
theorem se_X9_kind : Cond.selects RX9 yX9_kind yX9_kind ∈ TS := List.mem_filter.mpr ⟨tb_2 _ (List.mem_of_getElem? (i := 94) rfl), rfl⟩
theorem co_X9_kind : Cond.code yX9_kind cX9_kind 4 (some .int) ∈ TS := List.mem_filter.mpr ⟨tb_2 _ (List.mem_of_getElem? (i := 95) rfl), rfl⟩
theorem ml_L_27 : Cond.methodLink RL 27 yX9_row ∈ TS := List.mem_filter.mpr ⟨tb_2 _ (List.mem_of_getElem? (i := 96) rfl), rfl⟩
theorem im_X9_row : Cond.instanceMethod yX9_row ∈ TS := List.mem_filter.mpr ⟨tb_2 _ (List.mem_of_getElem? (i := 97) rfl), rfl⟩
theorem se_X9_row : Cond.selects RX9 yX9_row yX9_row ∈ TS := List.mem_filter.mpr ⟨tb_2 _ (List.mem_of_getElem? (i := 98) rfl), rfl⟩
theorem co_X9_row : Cond.code yX9_row cX9_row 5 (some .int) ∈ TS := List.mem_filter.mpr ⟨tb_2 _ (List.mem_of_getElem? (i := 99) rfl), rfl⟩
theorem ml_L_32 : Cond.methodLink RL 32 yX9_at ∈ TS := List.mem_filter.mpr ⟨tb_2 _ (List.mem_of_getElem? (i := 100) rfl), rfl⟩
theorem im_X9_at : Cond.instanceMethod yX9_at ∈ TS := List.mem_filter.mpr ⟨tb_2 _ (List.mem_of_getElem? (i := 101) rfl), rfl⟩
theorem se_X9_at : Cond.selects RX9 yX9_at yX9_at ∈ TS := List.mem_filter.mpr ⟨tb_2 _ (List.mem_of_getElem? (i := 102) rfl), rfl⟩
theorem co_X9_at : Cond.code yX9_at cX9_at 7 (some .int) ∈ TS := List.mem_filter.mpr ⟨tb_2 _ (List.mem_of_getElem? (i := 103) rfl), rfl⟩
theorem ml_X9_131 : Cond.methodLink RX9 131 yX9_refuseMoment ∈ TS := List.mem_filter.mpr ⟨tb_2 _ (List.mem_of_getElem? (i := 104) rfl), rfl⟩
theorem sm_X9_refuseMoment : Cond.static yX9_refuseMoment ∈ TS := List.mem_filter.mpr ⟨tb_2 _ (List.mem_of_getElem? (i := 105) rfl), rfl⟩
theorem co_X9_refuseMoment : Cond.code yX9_refuseMoment cX9_refuseMoment 2 (some .int) ∈ TS := List.mem_filter.mpr ⟨tb_2 _ (List.mem_of_getElem? (i := 106) rfl), rfl⟩
theorem ml_X9_135 : Cond.methodLink RX9 135 yX8_locate ∈ TS := List.mem_filter.mpr ⟨tb_2 _ (List.mem_of_getElem? (i := 107) rfl), rfl⟩
theorem im_X8_locate : Cond.instanceMethod yX8_locate ∈ TS := List.mem_filter.mpr ⟨tb_2 _ (List.mem_of_getElem? (i := 108) rfl), rfl⟩
theorem se_X8_locate : Cond.selects RX8 yX8_locate yX8_locate ∈ TS := List.mem_filter.mpr ⟨tb_2 _ (List.mem_of_getElem? (i := 109) rfl), rfl⟩
theorem co_X8_locate : Cond.code yX8_locate cX8_locate 4 (some .boolean) ∈ TS := List.mem_filter.mpr ⟨tb_2 _ (List.mem_of_getElem? (i := 110) rfl), rfl⟩
theorem ml_X8_37 : Cond.methodLink RX8 37 yX8_locateBehind ∈ TS := List.mem_filter.mpr ⟨tb_2 _ (List.mem_of_getElem? (i := 111) rfl), rfl⟩
theorem im_X8_locateBehind : Cond.instanceMethod yX8_locateBehind ∈ TS := List.mem_filter.mpr ⟨tb_2 _ (List.mem_of_getElem? (i := 113) rfl), rfl⟩
theorem co_X8_locateBehind : Cond.code yX8_locateBehind cX8_locateBehind 4 (some .boolean) ∈ TS := List.mem_filter.mpr ⟨tb_2 _ (List.mem_of_getElem? (i := 114) rfl), rfl⟩
theorem ml_X8_41 : Cond.methodLink RX8 41 yX8_isLeg ∈ TS := List.mem_filter.mpr ⟨tb_2 _ (List.mem_of_getElem? (i := 115) rfl), rfl⟩
theorem im_X8_isLeg : Cond.instanceMethod yX8_isLeg ∈ TS := List.mem_filter.mpr ⟨tb_2 _ (List.mem_of_getElem? (i := 116) rfl), rfl⟩
theorem se_X8_isLeg : Cond.selects RX8 yX8_isLeg yX8_isLeg ∈ TS := List.mem_filter.mpr ⟨tb_2 _ (List.mem_of_getElem? (i := 117) rfl), rfl⟩
theorem co_X8_isLeg : Cond.code yX8_isLeg cX8_isLeg 2 (some .boolean) ∈ TS := List.mem_filter.mpr ⟨tb_2 _ (List.mem_of_getElem? (i := 118) rfl), rfl⟩
theorem ml_X8_45 : Cond.methodLink RX8 45 yX8_followLeg ∈ TS := List.mem_filter.mpr ⟨tb_2 _ (List.mem_of_getElem? (i := 119) rfl), rfl⟩
theorem im_X8_followLeg : Cond.instanceMethod yX8_followLeg ∈ TS := List.mem_filter.mpr ⟨tb_2 _ (List.mem_of_getElem? (i := 121) rfl), rfl⟩
theorem co_X8_followLeg : Cond.code yX8_followLeg cX8_followLeg 5 none ∈ TS := List.mem_filter.mpr ⟨tb_2 _ (List.mem_of_getElem? (i := 122) rfl), rfl⟩
theorem ml_X8_49 : Cond.methodLink RX8 49 yX8_standAt ∈ TS := List.mem_filter.mpr ⟨tb_2 _ (List.mem_of_getElem? (i := 123) rfl), rfl⟩
theorem im_X8_standAt : Cond.instanceMethod yX8_standAt ∈ TS := List.mem_filter.mpr ⟨tb_2 _ (List.mem_of_getElem? (i := 125) rfl), rfl⟩
theorem co_X8_standAt : Cond.code yX8_standAt cX8_standAt 3 none ∈ TS := List.mem_filter.mpr ⟨tb_2 _ (List.mem_of_getElem? (i := 126) rfl), rfl⟩
theorem kc_X9_139 : Cond.constant RX9 139 (-900003) ∈ TS := List.mem_filter.mpr ⟨tb_2 _ (List.mem_of_getElem? (i := 127) rfl), rfl⟩
theorem ml_X9_149 : Cond.methodLink RX9 149 yX9_leastTerm ∈ TS := List.mem_filter.mpr ⟨tb_2 _ (List.mem_of_getElem? (i := 128) rfl), rfl⟩
theorem sm_X9_leastTerm : Cond.static yX9_leastTerm ∈ TS := List.mem_filter.mpr ⟨tb_2 _ (List.mem_of_getElem? (i := 129) rfl), rfl⟩
theorem co_X9_leastTerm : Cond.code yX9_leastTerm cX9_leastTerm 9 (some .long) ∈ TS := List.mem_filter.mpr ⟨tb_2 _ (List.mem_of_getElem? (i := 130) rfl), rfl⟩
theorem ml_X9_307 : Cond.methodLink RX9 307 Lib.MathLoose.abs_long.x ∈ TS := List.mem_filter.mpr ⟨tb_2 _ (List.mem_of_getElem? (i := 131) rfl), rfl⟩
theorem sm_Math_absJ : Cond.static Lib.MathLoose.abs_long.x ∈ TS := List.mem_filter.mpr ⟨tb_2 _ (List.mem_of_getElem? (i := 132) rfl), rfl⟩
theorem co_Math_absJ : Cond.code Lib.MathLoose.abs_long.x Lib.MathLoose.abs_long.code 2 (some .long) ∈ TS := List.mem_filter.mpr ⟨tb_2 _ (List.mem_of_getElem? (i := 133) rfl), rfl⟩
theorem ml_X9_313 : Cond.methodLink RX9 313 yX9_commonMeasure ∈ TS := List.mem_filter.mpr ⟨tb_2 _ (List.mem_of_getElem? (i := 134) rfl), rfl⟩
theorem sm_X9_commonMeasure : Cond.static yX9_commonMeasure ∈ TS := List.mem_filter.mpr ⟨tb_2 _ (List.mem_of_getElem? (i := 135) rfl), rfl⟩
theorem co_X9_commonMeasure : Cond.code yX9_commonMeasure cX9_commonMeasure 11 (some .long) ∈ TS := List.mem_filter.mpr ⟨tb_2 _ (List.mem_of_getElem? (i := 136) rfl), rfl⟩
theorem ml_L_37 : Cond.methodLink RL 37 yX9_there ∈ TS := List.mem_filter.mpr ⟨tb_2 _ (List.mem_of_getElem? (i := 137) rfl), rfl⟩
theorem im_X9_there : Cond.instanceMethod yX9_there ∈ TS := List.mem_filter.mpr ⟨tb_2 _ (List.mem_of_getElem? (i := 138) rfl), rfl⟩
theorem se_X9_there : Cond.selects RX9 yX9_there yX9_there ∈ TS := List.mem_filter.mpr ⟨tb_2 _ (List.mem_of_getElem? (i := 139) rfl), rfl⟩
theorem co_X9_there : Cond.code yX9_there cX9_there 4 (some .int) ∈ TS := List.mem_filter.mpr ⟨tb_2 _ (List.mem_of_getElem? (i := 140) rfl), rfl⟩
theorem ml_L_41 : Cond.methodLink RL 41 yX9_mended ∈ TS := List.mem_filter.mpr ⟨tb_2 _ (List.mem_of_getElem? (i := 141) rfl), rfl⟩
theorem im_X9_mended : Cond.instanceMethod yX9_mended ∈ TS := List.mem_filter.mpr ⟨tb_2 _ (List.mem_of_getElem? (i := 142) rfl), rfl⟩
theorem se_X9_mended : Cond.selects RX9 yX9_mended yX9_mended ∈ TS := List.mem_filter.mpr ⟨tb_2 _ (List.mem_of_getElem? (i := 143) rfl), rfl⟩
theorem co_X9_mended : Cond.code yX9_mended cX9_mended 1 (some .int) ∈ TS := List.mem_filter.mpr ⟨tb_2 _ (List.mem_of_getElem? (i := 144) rfl), rfl⟩
theorem ml_L_46 : Cond.methodLink RL 46 yX9_inside ∈ TS := List.mem_filter.mpr ⟨tb_2 _ (List.mem_of_getElem? (i := 145) rfl), rfl⟩
theorem im_X9_inside : Cond.instanceMethod yX9_inside ∈ TS := List.mem_filter.mpr ⟨tb_2 _ (List.mem_of_getElem? (i := 146) rfl), rfl⟩
theorem se_X9_inside : Cond.selects RX9 yX9_inside yX9_inside ∈ TS := List.mem_filter.mpr ⟨tb_2 _ (List.mem_of_getElem? (i := 147) rfl), rfl⟩
theorem co_X9_inside : Cond.code yX9_inside cX9_inside 8 (some .int) ∈ TS := List.mem_filter.mpr ⟨tb_2 _ (List.mem_of_getElem? (i := 148) rfl), rfl⟩
theorem ml_X9_153 : Cond.methodLink RX9 153 yX9_isPlace ∈ TS := List.mem_filter.mpr ⟨tb_2 _ (List.mem_of_getElem? (i := 149) rfl), rfl⟩
theorem sm_X9_isPlace : Cond.static yX9_isPlace ∈ TS := List.mem_filter.mpr ⟨tb_2 _ (List.mem_of_getElem? (i := 150) rfl), rfl⟩
theorem co_X9_isPlace : Cond.code yX9_isPlace cX9_isPlace 4 (some .boolean) ∈ TS := List.mem_filter.mpr ⟨tb_2 _ (List.mem_of_getElem? (i := 151) rfl), rfl⟩
theorem ml_X9_304 : Cond.methodLink RX9 304 yX9_isSpan ∈ TS := List.mem_filter.mpr ⟨tb_2 _ (List.mem_of_getElem? (i := 152) rfl), rfl⟩
theorem sm_X9_isSpan : Cond.static yX9_isSpan ∈ TS := List.mem_filter.mpr ⟨tb_2 _ (List.mem_of_getElem? (i := 153) rfl), rfl⟩
theorem co_X9_isSpan : Cond.code yX9_isSpan cX9_isSpan 2 (some .boolean) ∈ TS := List.mem_filter.mpr ⟨tb_2 _ (List.mem_of_getElem? (i := 154) rfl), rfl⟩
theorem ml_X9_157 : Cond.methodLink RX9 157 yX3_set ∈ TS := List.mem_filter.mpr ⟨tb_2 _ (List.mem_of_getElem? (i := 155) rfl), rfl⟩
theorem im_X3_set : Cond.instanceMethod yX3_set ∈ TS := List.mem_filter.mpr ⟨tb_2 _ (List.mem_of_getElem? (i := 156) rfl), rfl⟩
theorem se_X3_set : Cond.selects RX3 yX3_set yX3_set ∈ TS := List.mem_filter.mpr ⟨tb_2 _ (List.mem_of_getElem? (i := 157) rfl), rfl⟩
theorem co_X3_set : Cond.code yX3_set cX3_set 5 none ∈ TS := List.mem_filter.mpr ⟨tb_2 _ (List.mem_of_getElem? (i := 158) rfl), rfl⟩
theorem ml_X9_161 : Cond.methodLink RX9 161 yX9_isIn ∈ TS := List.mem_filter.mpr ⟨tb_2 _ (List.mem_of_getElem? (i := 159) rfl), rfl⟩
theorem im_X9_isIn : Cond.instanceMethod yX9_isIn ∈ TS := List.mem_filter.mpr ⟨tb_2 _ (List.mem_of_getElem? (i := 161) rfl), rfl⟩
theorem co_X9_isIn : Cond.code yX9_isIn cX9_isIn 4 (some .boolean) ∈ TS := List.mem_filter.mpr ⟨tb_2 _ (List.mem_of_getElem? (i := 162) rfl), rfl⟩
theorem ml_X9_317 : Cond.methodLink RX9 317 yX3_holds ∈ TS := List.mem_filter.mpr ⟨tb_2 _ (List.mem_of_getElem? (i := 163) rfl), rfl⟩
theorem im_X3_holds : Cond.instanceMethod yX3_holds ∈ TS := List.mem_filter.mpr ⟨tb_2 _ (List.mem_of_getElem? (i := 164) rfl), rfl⟩
theorem se_X3_holds : Cond.selects RX3 yX3_holds yX3_holds ∈ TS := List.mem_filter.mpr ⟨tb_2 _ (List.mem_of_getElem? (i := 165) rfl), rfl⟩
theorem co_X3_holds : Cond.code yX3_holds cX3_holds 2 (some .boolean) ∈ TS := List.mem_filter.mpr ⟨tb_2 _ (List.mem_of_getElem? (i := 166) rfl), rfl⟩
theorem ml_L_51 : Cond.methodLink RL 51 yX9_who ∈ TS := List.mem_filter.mpr ⟨tb_2 _ (List.mem_of_getElem? (i := 167) rfl), rfl⟩
theorem im_X9_who : Cond.instanceMethod yX9_who ∈ TS := List.mem_filter.mpr ⟨tb_2 _ (List.mem_of_getElem? (i := 168) rfl), rfl⟩
theorem se_X9_who : Cond.selects RX9 yX9_who yX9_who ∈ TS := List.mem_filter.mpr ⟨tb_2 _ (List.mem_of_getElem? (i := 169) rfl), rfl⟩
theorem co_X9_who : Cond.code yX9_who cX9_who 9 (some .int) ∈ TS := List.mem_filter.mpr ⟨tb_2 _ (List.mem_of_getElem? (i := 170) rfl), rfl⟩
theorem kc_X9_165 : Cond.constant RX9 165 (-900009) ∈ TS := List.mem_filter.mpr ⟨tb_2 _ (List.mem_of_getElem? (i := 171) rfl), rfl⟩
theorem ml_L_56 : Cond.methodLink RL 56 yX9_visits ∈ TS := List.mem_filter.mpr ⟨tb_2 _ (List.mem_of_getElem? (i := 172) rfl), rfl⟩
theorem im_X9_visits : Cond.instanceMethod yX9_visits ∈ TS := List.mem_filter.mpr ⟨tb_2 _ (List.mem_of_getElem? (i := 173) rfl), rfl⟩
theorem se_X9_visits : Cond.selects RX9 yX9_visits yX9_visits ∈ TS := List.mem_filter.mpr ⟨tb_2 _ (List.mem_of_getElem? (i := 174) rfl), rfl⟩
theorem co_X9_visits : Cond.code yX9_visits cX9_visits 7 (some .int) ∈ TS := List.mem_filter.mpr ⟨tb_2 _ (List.mem_of_getElem? (i := 175) rfl), rfl⟩
theorem ml_X9_166 : Cond.methodLink RX9 166 yX9_refuseVisit ∈ TS := List.mem_filter.mpr ⟨tb_2 _ (List.mem_of_getElem? (i := 176) rfl), rfl⟩
theorem sm_X9_refuseVisit : Cond.static yX9_refuseVisit ∈ TS := List.mem_filter.mpr ⟨tb_2 _ (List.mem_of_getElem? (i := 177) rfl), rfl⟩
theorem co_X9_refuseVisit : Cond.code yX9_refuseVisit cX9_refuseVisit 5 (some .int) ∈ TS := List.mem_filter.mpr ⟨tb_2 _ (List.mem_of_getElem? (i := 178) rfl), rfl⟩
theorem ml_X9_170 : Cond.methodLink RX9 170 yX9_gatherVisits ∈ TS := List.mem_filter.mpr ⟨tb_2 _ (List.mem_of_getElem? (i := 179) rfl), rfl⟩
theorem im_X9_gatherVisits : Cond.instanceMethod yX9_gatherVisits ∈ TS := List.mem_filter.mpr ⟨tb_2 _ (List.mem_of_getElem? (i := 181) rfl), rfl⟩
theorem co_X9_gatherVisits : Cond.code yX9_gatherVisits cX9_gatherVisits 3 none ∈ TS := List.mem_filter.mpr ⟨tb_2 _ (List.mem_of_getElem? (i := 182) rfl), rfl⟩
theorem ml_X9_321 : Cond.methodLink RX9 321 yX5_clear ∈ TS := List.mem_filter.mpr ⟨tb_2 _ (List.mem_of_getElem? (i := 183) rfl), rfl⟩
theorem im_X5_clear : Cond.instanceMethod yX5_clear ∈ TS := List.mem_filter.mpr ⟨tb_2 _ (List.mem_of_getElem? (i := 184) rfl), rfl⟩
theorem se_X5_clear : Cond.selects RX5 yX5_clear yX5_clear ∈ TS := List.mem_filter.mpr ⟨tb_2 _ (List.mem_of_getElem? (i := 185) rfl), rfl⟩
theorem co_X5_clear : Cond.code yX5_clear cX5_clear 1 none ∈ TS := List.mem_filter.mpr ⟨tb_2 _ (List.mem_of_getElem? (i := 186) rfl), rfl⟩
theorem ml_X9_322 : Cond.methodLink RX9 322 yX5_add ∈ TS := List.mem_filter.mpr ⟨tb_2 _ (List.mem_of_getElem? (i := 187) rfl), rfl⟩
theorem im_X5_add : Cond.instanceMethod yX5_add ∈ TS := List.mem_filter.mpr ⟨tb_2 _ (List.mem_of_getElem? (i := 188) rfl), rfl⟩
theorem se_X5_add : Cond.selects RX5 yX5_add yX5_add ∈ TS := List.mem_filter.mpr ⟨tb_2 _ (List.mem_of_getElem? (i := 189) rfl), rfl⟩
theorem co_X5_add : Cond.code yX5_add cX5_add 2 none ∈ TS := List.mem_filter.mpr ⟨tb_2 _ (List.mem_of_getElem? (i := 190) rfl), rfl⟩
theorem ml_L_60 : Cond.methodLink RL 60 yX9_visit ∈ TS := List.mem_filter.mpr ⟨tb_2 _ (List.mem_of_getElem? (i := 191) rfl), rfl⟩
theorem im_X9_visit : Cond.instanceMethod yX9_visit ∈ TS := List.mem_filter.mpr ⟨tb_2 _ (List.mem_of_getElem? (i := 192) rfl), rfl⟩
theorem se_X9_visit : Cond.selects RX9 yX9_visit yX9_visit ∈ TS := List.mem_filter.mpr ⟨tb_2 _ (List.mem_of_getElem? (i := 193) rfl), rfl⟩
theorem co_X9_visit : Cond.code yX9_visit cX9_visit 9 (some .int) ∈ TS := List.mem_filter.mpr ⟨tb_2 _ (List.mem_of_getElem? (i := 194) rfl), rfl⟩
theorem ml_L_65 : Cond.methodLink RL 65 yX9_far ∈ TS := List.mem_filter.mpr ⟨tb_2 _ (List.mem_of_getElem? (i := 195) rfl), rfl⟩
theorem im_X9_far : Cond.instanceMethod yX9_far ∈ TS := List.mem_filter.mpr ⟨tb_2 _ (List.mem_of_getElem? (i := 196) rfl), rfl⟩
theorem se_X9_far : Cond.selects RX9 yX9_far yX9_far ∈ TS := List.mem_filter.mpr ⟨tb_2 _ (List.mem_of_getElem? (i := 197) rfl), rfl⟩
theorem co_X9_far : Cond.code yX9_far cX9_far 5 (some .long) ∈ TS := List.mem_filter.mpr ⟨tb_2 _ (List.mem_of_getElem? (i := 198) rfl), rfl⟩
theorem kl_X9_182 : Cond.constantLong RX9 182 (-900001) ∈ TS := List.mem_filter.mpr ⟨tb_2 _ (List.mem_of_getElem? (i := 199) rfl), rfl⟩
theorem kl_X9_184 : Cond.constantLong RX9 184 (-900002) ∈ TS := List.mem_filter.mpr ⟨tb_2 _ (List.mem_of_getElem? (i := 200) rfl), rfl⟩
theorem ml_X9_186 : Cond.methodLink RX9 186 yX9_locateBoth ∈ TS := List.mem_filter.mpr ⟨tb_2 _ (List.mem_of_getElem? (i := 201) rfl), rfl⟩
theorem im_X9_locateBoth : Cond.instanceMethod yX9_locateBoth ∈ TS := List.mem_filter.mpr ⟨tb_2 _ (List.mem_of_getElem? (i := 203) rfl), rfl⟩
theorem co_X9_locateBoth : Cond.code yX9_locateBoth cX9_locateBoth 4 (some .boolean) ∈ TS := List.mem_filter.mpr ⟨tb_2 _ (List.mem_of_getElem? (i := 204) rfl), rfl⟩
theorem kl_X9_189 : Cond.constantLong RX9 189 (-900003) ∈ TS := List.mem_filter.mpr ⟨tb_2 _ (List.mem_of_getElem? (i := 205) rfl), rfl⟩
theorem ml_X9_191 : Cond.methodLink RX9 191 yX9_farAbove ∈ TS := List.mem_filter.mpr ⟨tb_2 _ (List.mem_of_getElem? (i := 206) rfl), rfl⟩
theorem sm_X9_farAbove : Cond.static yX9_farAbove ∈ TS := List.mem_filter.mpr ⟨tb_2 _ (List.mem_of_getElem? (i := 207) rfl), rfl⟩
theorem co_X9_farAbove : Cond.code yX9_farAbove cX9_farAbove 6 (some .long) ∈ TS := List.mem_filter.mpr ⟨tb_2 _ (List.mem_of_getElem? (i := 208) rfl), rfl⟩
theorem ml_X9_195 : Cond.methodLink RX9 195 yX9_farBelow ∈ TS := List.mem_filter.mpr ⟨tb_2 _ (List.mem_of_getElem? (i := 209) rfl), rfl⟩
theorem sm_X9_farBelow : Cond.static yX9_farBelow ∈ TS := List.mem_filter.mpr ⟨tb_2 _ (List.mem_of_getElem? (i := 210) rfl), rfl⟩
theorem co_X9_farBelow : Cond.code yX9_farBelow cX9_farBelow 4 (some .long) ∈ TS := List.mem_filter.mpr ⟨tb_2 _ (List.mem_of_getElem? (i := 211) rfl), rfl⟩
theorem ml_L_70 : Cond.methodLink RL 70 yX9_nearest ∈ TS := List.mem_filter.mpr ⟨tb_2 _ (List.mem_of_getElem? (i := 212) rfl), rfl⟩
theorem im_X9_nearest : Cond.instanceMethod yX9_nearest ∈ TS := List.mem_filter.mpr ⟨tb_2 _ (List.mem_of_getElem? (i := 213) rfl), rfl⟩
theorem se_X9_nearest : Cond.selects RX9 yX9_nearest yX9_nearest ∈ TS := List.mem_filter.mpr ⟨tb_2 _ (List.mem_of_getElem? (i := 214) rfl), rfl⟩
theorem co_X9_nearest : Cond.code yX9_nearest cX9_nearest 6 (some .int) ∈ TS := List.mem_filter.mpr ⟨tb_2 _ (List.mem_of_getElem? (i := 215) rfl), rfl⟩
theorem ml_X9_198 : Cond.methodLink RX9 198 yX4_clear ∈ TS := List.mem_filter.mpr ⟨tb_2 _ (List.mem_of_getElem? (i := 216) rfl), rfl⟩
theorem im_X4_clear : Cond.instanceMethod yX4_clear ∈ TS := List.mem_filter.mpr ⟨tb_2 _ (List.mem_of_getElem? (i := 217) rfl), rfl⟩
theorem se_X4_clear : Cond.selects RX4 yX4_clear yX4_clear ∈ TS := List.mem_filter.mpr ⟨tb_2 _ (List.mem_of_getElem? (i := 218) rfl), rfl⟩
theorem co_X4_clear : Cond.code yX4_clear cX4_clear 1 none ∈ TS := List.mem_filter.mpr ⟨tb_2 _ (List.mem_of_getElem? (i := 219) rfl), rfl⟩
theorem ml_X9_201 : Cond.methodLink RX9 201 yX4_put ∈ TS := List.mem_filter.mpr ⟨tb_2 _ (List.mem_of_getElem? (i := 220) rfl), rfl⟩
theorem im_X4_put : Cond.instanceMethod yX4_put ∈ TS := List.mem_filter.mpr ⟨tb_2 _ (List.mem_of_getElem? (i := 221) rfl), rfl⟩
theorem se_X4_put : Cond.selects RX4 yX4_put yX4_put ∈ TS := List.mem_filter.mpr ⟨tb_2 _ (List.mem_of_getElem? (i := 222) rfl), rfl⟩
theorem co_X4_put : Cond.code yX4_put cX4_put 7 none ∈ TS := List.mem_filter.mpr ⟨tb_2 _ (List.mem_of_getElem? (i := 223) rfl), rfl⟩
theorem ml_X9_204 : Cond.methodLink RX9 204 yX4_numberAt ∈ TS := List.mem_filter.mpr ⟨tb_2 _ (List.mem_of_getElem? (i := 224) rfl), rfl⟩
theorem im_X4_numberAt : Cond.instanceMethod yX4_numberAt ∈ TS := List.mem_filter.mpr ⟨tb_2 _ (List.mem_of_getElem? (i := 225) rfl), rfl⟩
theorem se_X4_numberAt : Cond.selects RX4 yX4_numberAt yX4_numberAt ∈ TS := List.mem_filter.mpr ⟨tb_2 _ (List.mem_of_getElem? (i := 226) rfl), rfl⟩
theorem co_X4_numberAt : Cond.code yX4_numberAt cX4_numberAt 2 (some .int) ∈ TS := List.mem_filter.mpr ⟨tb_2 _ (List.mem_of_getElem? (i := 227) rfl), rfl⟩
theorem mn_X4_26 : Cond.methodLinkNest RX4 26 yX9_isWithin RX9 ∈ lw_tbl := tb_2 _ (List.mem_of_getElem? (i := 228) rfl)
theorem kc_X4_30 : Cond.constant RX4 30 (-900009) ∈ TS := List.mem_filter.mpr ⟨tb_2 _ (List.mem_of_getElem? (i := 229) rfl), rfl⟩
theorem ml_L_74 : Cond.methodLink RL 74 yX9_meetings ∈ TS := List.mem_filter.mpr ⟨tb_2 _ (List.mem_of_getElem? (i := 230) rfl), rfl⟩
theorem im_X9_meetings : Cond.instanceMethod yX9_meetings ∈ TS := List.mem_filter.mpr ⟨tb_2 _ (List.mem_of_getElem? (i := 231) rfl), rfl⟩
theorem se_X9_meetings : Cond.selects RX9 yX9_meetings yX9_meetings ∈ TS := List.mem_filter.mpr ⟨tb_2 _ (List.mem_of_getElem? (i := 232) rfl), rfl⟩
theorem co_X9_meetings : Cond.code yX9_meetings cX9_meetings 5 (some .int) ∈ TS := List.mem_filter.mpr ⟨tb_2 _ (List.mem_of_getElem? (i := 233) rfl), rfl⟩
theorem ml_X9_208 : Cond.methodLink RX9 208 yX9_refuseMeeting ∈ TS := List.mem_filter.mpr ⟨tb_2 _ (List.mem_of_getElem? (i := 234) rfl), rfl⟩
theorem sm_X9_refuseMeeting : Cond.static yX9_refuseMeeting ∈ TS := List.mem_filter.mpr ⟨tb_2 _ (List.mem_of_getElem? (i := 235) rfl), rfl⟩
theorem co_X9_refuseMeeting : Cond.code yX9_refuseMeeting cX9_refuseMeeting 3 (some .int) ∈ TS := List.mem_filter.mpr ⟨tb_2 _ (List.mem_of_getElem? (i := 236) rfl), rfl⟩
theorem ml_X9_212 : Cond.methodLink RX9 212 yX9_gatherMeetings ∈ TS := List.mem_filter.mpr ⟨tb_2 _ (List.mem_of_getElem? (i := 237) rfl), rfl⟩
theorem im_X9_gatherMeetings : Cond.instanceMethod yX9_gatherMeetings ∈ TS := List.mem_filter.mpr ⟨tb_2 _ (List.mem_of_getElem? (i := 239) rfl), rfl⟩
theorem co_X9_gatherMeetings : Cond.code yX9_gatherMeetings cX9_gatherMeetings 5 none ∈ TS := List.mem_filter.mpr ⟨tb_3 _ (List.mem_of_getElem? (i := 0) rfl), rfl⟩
theorem ml_X9_325 : Cond.methodLink RX9 325 yX9_isMeeting ∈ TS := List.mem_filter.mpr ⟨tb_3 _ (List.mem_of_getElem? (i := 1) rfl), rfl⟩
theorem im_X9_isMeeting : Cond.instanceMethod yX9_isMeeting ∈ TS := List.mem_filter.mpr ⟨tb_3 _ (List.mem_of_getElem? (i := 3) rfl), rfl⟩
theorem co_X9_isMeeting : Cond.code yX9_isMeeting cX9_isMeeting 5 (some .boolean) ∈ TS := List.mem_filter.mpr ⟨tb_3 _ (List.mem_of_getElem? (i := 4) rfl), rfl⟩
theorem ml_L_78 : Cond.methodLink RL 78 yX9_longest ∈ TS := List.mem_filter.mpr ⟨tb_3 _ (List.mem_of_getElem? (i := 5) rfl), rfl⟩
theorem im_X9_longest : Cond.instanceMethod yX9_longest ∈ TS := List.mem_filter.mpr ⟨tb_3 _ (List.mem_of_getElem? (i := 6) rfl), rfl⟩
theorem se_X9_longest : Cond.selects RX9 yX9_longest yX9_longest ∈ TS := List.mem_filter.mpr ⟨tb_3 _ (List.mem_of_getElem? (i := 7) rfl), rfl⟩
theorem co_X9_longest : Cond.code yX9_longest cX9_longest 7 (some .int) ∈ TS := List.mem_filter.mpr ⟨tb_3 _ (List.mem_of_getElem? (i := 8) rfl), rfl⟩
theorem ml_X9_215 : Cond.methodLink RX9 215 yX5_longestOne ∈ TS := List.mem_filter.mpr ⟨tb_3 _ (List.mem_of_getElem? (i := 9) rfl), rfl⟩
theorem im_X5_longestOne : Cond.instanceMethod yX5_longestOne ∈ TS := List.mem_filter.mpr ⟨tb_3 _ (List.mem_of_getElem? (i := 10) rfl), rfl⟩
theorem se_X5_longestOne : Cond.selects RX5 yX5_longestOne yX5_longestOne ∈ TS := List.mem_filter.mpr ⟨tb_3 _ (List.mem_of_getElem? (i := 11) rfl), rfl⟩
theorem co_X5_longestOne : Cond.code yX5_longestOne cX5_longestOne 3 (some .int) ∈ TS := List.mem_filter.mpr ⟨tb_3 _ (List.mem_of_getElem? (i := 12) rfl), rfl⟩
theorem ml_X5_22 : Cond.methodLink RX5 22 yX5_lengthOf ∈ TS := List.mem_filter.mpr ⟨tb_3 _ (List.mem_of_getElem? (i := 13) rfl), rfl⟩
theorem im_X5_lengthOf : Cond.instanceMethod yX5_lengthOf ∈ TS := List.mem_filter.mpr ⟨tb_3 _ (List.mem_of_getElem? (i := 14) rfl), rfl⟩
theorem se_X5_lengthOf : Cond.selects RX5 yX5_lengthOf yX5_lengthOf ∈ TS := List.mem_filter.mpr ⟨tb_3 _ (List.mem_of_getElem? (i := 15) rfl), rfl⟩
theorem co_X5_lengthOf : Cond.code yX5_lengthOf cX5_lengthOf 2 (some .int) ∈ TS := List.mem_filter.mpr ⟨tb_3 _ (List.mem_of_getElem? (i := 16) rfl), rfl⟩
theorem ml_X9_219 : Cond.methodLink RX9 219 yX5_lengthOf ∈ TS := List.mem_filter.mpr ⟨tb_3 _ (List.mem_of_getElem? (i := 17) rfl), rfl⟩
theorem ml_L_83 : Cond.methodLink RL 83 yX9_pages ∈ TS := List.mem_filter.mpr ⟨tb_3 _ (List.mem_of_getElem? (i := 18) rfl), rfl⟩
theorem im_X9_pages : Cond.instanceMethod yX9_pages ∈ TS := List.mem_filter.mpr ⟨tb_3 _ (List.mem_of_getElem? (i := 19) rfl), rfl⟩
theorem se_X9_pages : Cond.selects RX9 yX9_pages yX9_pages ∈ TS := List.mem_filter.mpr ⟨tb_3 _ (List.mem_of_getElem? (i := 20) rfl), rfl⟩
theorem co_X9_pages : Cond.code yX9_pages cX9_pages 2 (some .int) ∈ TS := List.mem_filter.mpr ⟨tb_3 _ (List.mem_of_getElem? (i := 21) rfl), rfl⟩
theorem ml_X9_222 : Cond.methodLink RX9 222 yX9_refreshTree ∈ TS := List.mem_filter.mpr ⟨tb_3 _ (List.mem_of_getElem? (i := 22) rfl), rfl⟩
theorem im_X9_refreshTree : Cond.instanceMethod yX9_refreshTree ∈ TS := List.mem_filter.mpr ⟨tb_3 _ (List.mem_of_getElem? (i := 24) rfl), rfl⟩
theorem co_X9_refreshTree : Cond.code yX9_refreshTree cX9_refreshTree 5 none ∈ TS := List.mem_filter.mpr ⟨tb_3 _ (List.mem_of_getElem? (i := 25) rfl), rfl⟩
theorem ml_X9_328 : Cond.methodLink RX9 328 yX2_clear ∈ TS := List.mem_filter.mpr ⟨tb_3 _ (List.mem_of_getElem? (i := 26) rfl), rfl⟩
theorem im_X2_clear : Cond.instanceMethod yX2_clear ∈ TS := List.mem_filter.mpr ⟨tb_3 _ (List.mem_of_getElem? (i := 27) rfl), rfl⟩
theorem se_X2_clear : Cond.selects RX2 yX2_clear yX2_clear ∈ TS := List.mem_filter.mpr ⟨tb_3 _ (List.mem_of_getElem? (i := 28) rfl), rfl⟩
theorem co_X2_clear : Cond.code yX2_clear cX2_clear 1 none ∈ TS := List.mem_filter.mpr ⟨tb_3 _ (List.mem_of_getElem? (i := 29) rfl), rfl⟩
theorem ml_X2_65 : Cond.methodLink RX2 65 yX2_addLeaf ∈ TS := List.mem_filter.mpr ⟨tb_3 _ (List.mem_of_getElem? (i := 30) rfl), rfl⟩
theorem im_X2_addLeaf : Cond.instanceMethod yX2_addLeaf ∈ TS := List.mem_filter.mpr ⟨tb_3 _ (List.mem_of_getElem? (i := 32) rfl), rfl⟩
theorem co_X2_addLeaf : Cond.code yX2_addLeaf cX2_addLeaf 1 none ∈ TS := List.mem_filter.mpr ⟨tb_3 _ (List.mem_of_getElem? (i := 33) rfl), rfl⟩
theorem ml_X9_329 : Cond.methodLink RX9 329 yX8_isLeg ∈ TS := List.mem_filter.mpr ⟨tb_3 _ (List.mem_of_getElem? (i := 34) rfl), rfl⟩
theorem ml_X9_332 : Cond.methodLink RX9 332 yX2_takeLeg ∈ TS := List.mem_filter.mpr ⟨tb_3 _ (List.mem_of_getElem? (i := 35) rfl), rfl⟩
theorem im_X2_takeLeg : Cond.instanceMethod yX2_takeLeg ∈ TS := List.mem_filter.mpr ⟨tb_3 _ (List.mem_of_getElem? (i := 36) rfl), rfl⟩
theorem se_X2_takeLeg : Cond.selects RX2 yX2_takeLeg yX2_takeLeg ∈ TS := List.mem_filter.mpr ⟨tb_3 _ (List.mem_of_getElem? (i := 37) rfl), rfl⟩
theorem co_X2_takeLeg : Cond.code yX2_takeLeg cX2_takeLeg 6 (some .int) ∈ TS := List.mem_filter.mpr ⟨tb_3 _ (List.mem_of_getElem? (i := 38) rfl), rfl⟩
theorem ml_X2_73 : Cond.methodLink RX2 73 yX2_setLegAxis ∈ TS := List.mem_filter.mpr ⟨tb_3 _ (List.mem_of_getElem? (i := 39) rfl), rfl⟩
theorem im_X2_setLegAxis : Cond.instanceMethod yX2_setLegAxis ∈ TS := List.mem_filter.mpr ⟨tb_3 _ (List.mem_of_getElem? (i := 41) rfl), rfl⟩
theorem co_X2_setLegAxis : Cond.code yX2_setLegAxis cX2_setLegAxis 7 none ∈ TS := List.mem_filter.mpr ⟨tb_3 _ (List.mem_of_getElem? (i := 42) rfl), rfl⟩
theorem ml_X2_95 : Cond.methodLink RX2 95 Lib.Math.min.name ∈ TS := List.mem_filter.mpr ⟨tb_3 _ (List.mem_of_getElem? (i := 43) rfl), rfl⟩
theorem sm_Math_minII : Cond.static Lib.Math.min.name ∈ TS := List.mem_filter.mpr ⟨tb_3 _ (List.mem_of_getElem? (i := 44) rfl), rfl⟩
theorem co_Math_minII : Cond.code Lib.Math.min.name Lib.Math.min.code 2 (some .int) ∈ TS := List.mem_filter.mpr ⟨tb_3 _ (List.mem_of_getElem? (i := 45) rfl), rfl⟩
theorem ml_X2_100 : Cond.methodLink RX2 100 Lib.Math.max.name ∈ TS := List.mem_filter.mpr ⟨tb_3 _ (List.mem_of_getElem? (i := 46) rfl), rfl⟩
theorem ml_X2_103 : Cond.methodLink RX2 103 yX0_setAxis ∈ TS := List.mem_filter.mpr ⟨tb_3 _ (List.mem_of_getElem? (i := 47) rfl), rfl⟩
theorem im_X0_setAxis : Cond.instanceMethod yX0_setAxis ∈ TS := List.mem_filter.mpr ⟨tb_3 _ (List.mem_of_getElem? (i := 48) rfl), rfl⟩
theorem se_X0_setAxis : Cond.selects RX0 yX0_setAxis yX0_setAxis ∈ TS := List.mem_filter.mpr ⟨tb_3 _ (List.mem_of_getElem? (i := 49) rfl), rfl⟩
theorem co_X0_setAxis : Cond.code yX0_setAxis cX0_setAxis 6 none ∈ TS := List.mem_filter.mpr ⟨tb_3 _ (List.mem_of_getElem? (i := 50) rfl), rfl⟩
theorem ml_X2_83 : Cond.methodLink RX2 83 yX0_widen ∈ TS := List.mem_filter.mpr ⟨tb_3 _ (List.mem_of_getElem? (i := 51) rfl), rfl⟩
theorem im_X0_widen : Cond.instanceMethod yX0_widen ∈ TS := List.mem_filter.mpr ⟨tb_3 _ (List.mem_of_getElem? (i := 52) rfl), rfl⟩
theorem se_X0_widen : Cond.selects RX0 yX0_widen yX0_widen ∈ TS := List.mem_filter.mpr ⟨tb_3 _ (List.mem_of_getElem? (i := 53) rfl), rfl⟩
theorem co_X0_widen : Cond.code yX0_widen cX0_widen 7 none ∈ TS := List.mem_filter.mpr ⟨tb_3 _ (List.mem_of_getElem? (i := 54) rfl), rfl⟩
theorem ml_X0_19 : Cond.methodLink RX0 19 Lib.Math.min.name ∈ TS := List.mem_filter.mpr ⟨tb_3 _ (List.mem_of_getElem? (i := 55) rfl), rfl⟩
theorem ml_X2_87 : Cond.methodLink RX2 87 yX2_partFor ∈ TS := List.mem_filter.mpr ⟨tb_3 _ (List.mem_of_getElem? (i := 56) rfl), rfl⟩
theorem im_X2_partFor : Cond.instanceMethod yX2_partFor ∈ TS := List.mem_filter.mpr ⟨tb_3 _ (List.mem_of_getElem? (i := 58) rfl), rfl⟩
theorem co_X2_partFor : Cond.code yX2_partFor cX2_partFor 6 (some .int) ∈ TS := List.mem_filter.mpr ⟨tb_3 _ (List.mem_of_getElem? (i := 59) rfl), rfl⟩
theorem ml_X2_107 : Cond.methodLink RX2 107 yX0_growth ∈ TS := List.mem_filter.mpr ⟨tb_3 _ (List.mem_of_getElem? (i := 60) rfl), rfl⟩
theorem im_X0_growth : Cond.instanceMethod yX0_growth ∈ TS := List.mem_filter.mpr ⟨tb_3 _ (List.mem_of_getElem? (i := 61) rfl), rfl⟩
theorem se_X0_growth : Cond.selects RX0 yX0_growth yX0_growth ∈ TS := List.mem_filter.mpr ⟨tb_3 _ (List.mem_of_getElem? (i := 62) rfl), rfl⟩
theorem co_X0_growth : Cond.code yX0_growth cX0_growth 10 (some .int) ∈ TS := List.mem_filter.mpr ⟨tb_3 _ (List.mem_of_getElem? (i := 63) rfl), rfl⟩
theorem ml_X0_22 : Cond.methodLink RX0 22 yX0_sizeOf ∈ TS := List.mem_filter.mpr ⟨tb_3 _ (List.mem_of_getElem? (i := 64) rfl), rfl⟩
theorem im_X0_sizeOf : Cond.instanceMethod yX0_sizeOf ∈ TS := List.mem_filter.mpr ⟨tb_3 _ (List.mem_of_getElem? (i := 65) rfl), rfl⟩
theorem se_X0_sizeOf : Cond.selects RX0 yX0_sizeOf yX0_sizeOf ∈ TS := List.mem_filter.mpr ⟨tb_3 _ (List.mem_of_getElem? (i := 66) rfl), rfl⟩
theorem co_X0_sizeOf : Cond.code yX0_sizeOf cX0_sizeOf 4 (some .int) ∈ TS := List.mem_filter.mpr ⟨tb_3 _ (List.mem_of_getElem? (i := 67) rfl), rfl⟩
theorem ml_X2_91 : Cond.methodLink RX2 91 yX2_hold ∈ TS := List.mem_filter.mpr ⟨tb_3 _ (List.mem_of_getElem? (i := 68) rfl), rfl⟩
theorem im_X2_hold : Cond.instanceMethod yX2_hold ∈ TS := List.mem_filter.mpr ⟨tb_3 _ (List.mem_of_getElem? (i := 70) rfl), rfl⟩
theorem co_X2_hold : Cond.code yX2_hold cX2_hold 3 none ∈ TS := List.mem_filter.mpr ⟨tb_3 _ (List.mem_of_getElem? (i := 71) rfl), rfl⟩
theorem ml_X2_111 : Cond.methodLink RX2 111 yX0_copyFrom ∈ TS := List.mem_filter.mpr ⟨tb_3 _ (List.mem_of_getElem? (i := 72) rfl), rfl⟩
theorem im_X0_copyFrom : Cond.instanceMethod yX0_copyFrom ∈ TS := List.mem_filter.mpr ⟨tb_3 _ (List.mem_of_getElem? (i := 73) rfl), rfl⟩
theorem se_X0_copyFrom : Cond.selects RX0 yX0_copyFrom yX0_copyFrom ∈ TS := List.mem_filter.mpr ⟨tb_3 _ (List.mem_of_getElem? (i := 74) rfl), rfl⟩
theorem co_X0_copyFrom : Cond.code yX0_copyFrom cX0_copyFrom 5 none ∈ TS := List.mem_filter.mpr ⟨tb_3 _ (List.mem_of_getElem? (i := 75) rfl), rfl⟩
theorem ml_X9_336 : Cond.methodLink RX9 336 yX2_cutIfOverfull ∈ TS := List.mem_filter.mpr ⟨tb_3 _ (List.mem_of_getElem? (i := 76) rfl), rfl⟩
theorem im_X2_cutIfOverfull : Cond.instanceMethod yX2_cutIfOverfull ∈ TS := List.mem_filter.mpr ⟨tb_3 _ (List.mem_of_getElem? (i := 77) rfl), rfl⟩
theorem se_X2_cutIfOverfull : Cond.selects RX2 yX2_cutIfOverfull yX2_cutIfOverfull ∈ TS := List.mem_filter.mpr ⟨tb_3 _ (List.mem_of_getElem? (i := 78) rfl), rfl⟩
theorem co_X2_cutIfOverfull : Cond.code yX2_cutIfOverfull cX2_cutIfOverfull 4 none ∈ TS := List.mem_filter.mpr ⟨tb_3 _ (List.mem_of_getElem? (i := 79) rfl), rfl⟩
theorem ml_X2_114 : Cond.methodLink RX2 114 yX2_chooseCut ∈ TS := List.mem_filter.mpr ⟨tb_3 _ (List.mem_of_getElem? (i := 80) rfl), rfl⟩
theorem im_X2_chooseCut : Cond.instanceMethod yX2_chooseCut ∈ TS := List.mem_filter.mpr ⟨tb_3 _ (List.mem_of_getElem? (i := 82) rfl), rfl⟩
theorem co_X2_chooseCut : Cond.code yX2_chooseCut cX2_chooseCut 7 (some .int) ∈ TS := List.mem_filter.mpr ⟨tb_3 _ (List.mem_of_getElem? (i := 83) rfl), rfl⟩
theorem ml_X2_118 : Cond.methodLink RX2 118 yX2_sortAlong ∈ TS := List.mem_filter.mpr ⟨tb_3 _ (List.mem_of_getElem? (i := 84) rfl), rfl⟩
theorem im_X2_sortAlong : Cond.instanceMethod yX2_sortAlong ∈ TS := List.mem_filter.mpr ⟨tb_3 _ (List.mem_of_getElem? (i := 86) rfl), rfl⟩
theorem co_X2_sortAlong : Cond.code yX2_sortAlong cX2_sortAlong 6 none ∈ TS := List.mem_filter.mpr ⟨tb_3 _ (List.mem_of_getElem? (i := 87) rfl), rfl⟩
theorem ml_X2_130 : Cond.methodLink RX2 130 yX2_isAhead ∈ TS := List.mem_filter.mpr ⟨tb_3 _ (List.mem_of_getElem? (i := 88) rfl), rfl⟩
theorem im_X2_isAhead : Cond.instanceMethod yX2_isAhead ∈ TS := List.mem_filter.mpr ⟨tb_3 _ (List.mem_of_getElem? (i := 90) rfl), rfl⟩
theorem co_X2_isAhead : Cond.code yX2_isAhead cX2_isAhead 6 (some .boolean) ∈ TS := List.mem_filter.mpr ⟨tb_3 _ (List.mem_of_getElem? (i := 91) rfl), rfl⟩
theorem ml_X2_134 : Cond.methodLink RX2 134 yX0_endsSum ∈ TS := List.mem_filter.mpr ⟨tb_3 _ (List.mem_of_getElem? (i := 92) rfl), rfl⟩
theorem im_X0_endsSum : Cond.instanceMethod yX0_endsSum ∈ TS := List.mem_filter.mpr ⟨tb_3 _ (List.mem_of_getElem? (i := 93) rfl), rfl⟩
theorem se_X0_endsSum : Cond.selects RX0 yX0_endsSum yX0_endsSum ∈ TS := List.mem_filter.mpr ⟨tb_3 _ (List.mem_of_getElem? (i := 94) rfl), rfl⟩
theorem co_X0_endsSum : Cond.code yX0_endsSum cX0_endsSum 4 (some .int) ∈ TS := List.mem_filter.mpr ⟨tb_3 _ (List.mem_of_getElem? (i := 95) rfl), rfl⟩
theorem ml_X2_121 : Cond.methodLink RX2 121 yX2_sizeTogether ∈ TS := List.mem_filter.mpr ⟨tb_3 _ (List.mem_of_getElem? (i := 96) rfl), rfl⟩
theorem im_X2_sizeTogether : Cond.instanceMethod yX2_sizeTogether ∈ TS := List.mem_filter.mpr ⟨tb_3 _ (List.mem_of_getElem? (i := 98) rfl), rfl⟩
theorem co_X2_sizeTogether : Cond.code yX2_sizeTogether cX2_sizeTogether 4 (some .int) ∈ TS := List.mem_filter.mpr ⟨tb_3 _ (List.mem_of_getElem? (i := 99) rfl), rfl⟩
theorem ml_X2_137 : Cond.methodLink RX2 137 yX0_sizeOf ∈ TS := List.mem_filter.mpr ⟨tb_3 _ (List.mem_of_getElem? (i := 100) rfl), rfl⟩
theorem ml_X2_124 : Cond.methodLink RX2 124 arraycopyName ∈ TS := List.mem_filter.mpr ⟨tb_3 _ (List.mem_of_getElem? (i := 101) rfl), rfl⟩
theorem sm_System_arraycopyLj : Cond.static arraycopyName ∈ TS := List.mem_filter.mpr ⟨tb_3 _ (List.mem_of_getElem? (i := 102) rfl), rfl⟩
theorem nat_System_arraycopyLj : Cond.native arraycopyName ∈ TS := List.mem_filter.mpr ⟨tb_3 _ (List.mem_of_getElem? (i := 103) rfl), rfl⟩
theorem ml_X9_231 : Cond.methodLink RX9 231 yX2_leaves ∈ TS := List.mem_filter.mpr ⟨tb_3 _ (List.mem_of_getElem? (i := 104) rfl), rfl⟩
theorem im_X2_leaves : Cond.instanceMethod yX2_leaves ∈ TS := List.mem_filter.mpr ⟨tb_3 _ (List.mem_of_getElem? (i := 105) rfl), rfl⟩
theorem se_X2_leaves : Cond.selects RX2 yX2_leaves yX2_leaves ∈ TS := List.mem_filter.mpr ⟨tb_3 _ (List.mem_of_getElem? (i := 106) rfl), rfl⟩
theorem co_X2_leaves : Cond.code yX2_leaves cX2_leaves 1 (some .int) ∈ TS := List.mem_filter.mpr ⟨tb_3 _ (List.mem_of_getElem? (i := 107) rfl), rfl⟩
theorem ml_X9_234 : Cond.methodLink RX9 234 yX2_deepest ∈ TS := List.mem_filter.mpr ⟨tb_3 _ (List.mem_of_getElem? (i := 108) rfl), rfl⟩
theorem im_X2_deepest : Cond.instanceMethod yX2_deepest ∈ TS := List.mem_filter.mpr ⟨tb_3 _ (List.mem_of_getElem? (i := 109) rfl), rfl⟩
theorem se_X2_deepest : Cond.selects RX2 yX2_deepest yX2_deepest ∈ TS := List.mem_filter.mpr ⟨tb_3 _ (List.mem_of_getElem? (i := 110) rfl), rfl⟩
theorem co_X2_deepest : Cond.code yX2_deepest cX2_deepest 4 (some .int) ∈ TS := List.mem_filter.mpr ⟨tb_3 _ (List.mem_of_getElem? (i := 111) rfl), rfl⟩
theorem ml_L_88 : Cond.methodLink RL 88 yX9_size ∈ TS := List.mem_filter.mpr ⟨tb_3 _ (List.mem_of_getElem? (i := 112) rfl), rfl⟩
theorem im_X9_size : Cond.instanceMethod yX9_size ∈ TS := List.mem_filter.mpr ⟨tb_3 _ (List.mem_of_getElem? (i := 113) rfl), rfl⟩
theorem se_X9_size : Cond.selects RX9 yX9_size yX9_size ∈ TS := List.mem_filter.mpr ⟨tb_3 _ (List.mem_of_getElem? (i := 114) rfl), rfl⟩
theorem co_X9_size : Cond.code yX9_size cX9_size 1 (some .long) ∈ TS := List.mem_filter.mpr ⟨tb_3 _ (List.mem_of_getElem? (i := 115) rfl), rfl⟩
theorem ml_X9_237 : Cond.methodLink RX9 237 yX2_leafSizes ∈ TS := List.mem_filter.mpr ⟨tb_3 _ (List.mem_of_getElem? (i := 116) rfl), rfl⟩
theorem im_X2_leafSizes : Cond.instanceMethod yX2_leafSizes ∈ TS := List.mem_filter.mpr ⟨tb_3 _ (List.mem_of_getElem? (i := 117) rfl), rfl⟩
theorem se_X2_leafSizes : Cond.selects RX2 yX2_leafSizes yX2_leafSizes ∈ TS := List.mem_filter.mpr ⟨tb_3 _ (List.mem_of_getElem? (i := 118) rfl), rfl⟩
theorem co_X2_leafSizes : Cond.code yX2_leafSizes cX2_leafSizes 4 (some .long) ∈ TS := List.mem_filter.mpr ⟨tb_3 _ (List.mem_of_getElem? (i := 119) rfl), rfl⟩
theorem ml_L_93 : Cond.methodLink RL 93 yX9_opens ∈ TS := List.mem_filter.mpr ⟨tb_3 _ (List.mem_of_getElem? (i := 120) rfl), rfl⟩
theorem im_X9_opens : Cond.instanceMethod yX9_opens ∈ TS := List.mem_filter.mpr ⟨tb_3 _ (List.mem_of_getElem? (i := 121) rfl), rfl⟩
theorem se_X9_opens : Cond.selects RX9 yX9_opens yX9_opens ∈ TS := List.mem_filter.mpr ⟨tb_3 _ (List.mem_of_getElem? (i := 122) rfl), rfl⟩
theorem co_X9_opens : Cond.code yX9_opens cX9_opens 8 (some .int) ∈ TS := List.mem_filter.mpr ⟨tb_3 _ (List.mem_of_getElem? (i := 123) rfl), rfl⟩
theorem ml_X9_241 : Cond.methodLink RX9 241 yX2_ask ∈ TS := List.mem_filter.mpr ⟨tb_3 _ (List.mem_of_getElem? (i := 124) rfl), rfl⟩
theorem im_X2_ask : Cond.instanceMethod yX2_ask ∈ TS := List.mem_filter.mpr ⟨tb_3 _ (List.mem_of_getElem? (i := 125) rfl), rfl⟩
theorem se_X2_ask : Cond.selects RX2 yX2_ask yX2_ask ∈ TS := List.mem_filter.mpr ⟨tb_3 _ (List.mem_of_getElem? (i := 126) rfl), rfl⟩
theorem co_X2_ask : Cond.code yX2_ask cX2_ask 6 none ∈ TS := List.mem_filter.mpr ⟨tb_3 _ (List.mem_of_getElem? (i := 127) rfl), rfl⟩
theorem ml_X2_154 : Cond.methodLink RX2 154 yX0_touch ∈ TS := List.mem_filter.mpr ⟨tb_3 _ (List.mem_of_getElem? (i := 128) rfl), rfl⟩
theorem im_X0_touch : Cond.instanceMethod yX0_touch ∈ TS := List.mem_filter.mpr ⟨tb_3 _ (List.mem_of_getElem? (i := 129) rfl), rfl⟩
theorem se_X0_touch : Cond.selects RX0 yX0_touch yX0_touch ∈ TS := List.mem_filter.mpr ⟨tb_3 _ (List.mem_of_getElem? (i := 130) rfl), rfl⟩
theorem co_X0_touch : Cond.code yX0_touch cX0_touch 7 (some .boolean) ∈ TS := List.mem_filter.mpr ⟨tb_3 _ (List.mem_of_getElem? (i := 131) rfl), rfl⟩
theorem ml_X2_158 : Cond.methodLink RX2 158 yX2_touchedIn ∈ TS := List.mem_filter.mpr ⟨tb_3 _ (List.mem_of_getElem? (i := 132) rfl), rfl⟩
theorem im_X2_touchedIn : Cond.instanceMethod yX2_touchedIn ∈ TS := List.mem_filter.mpr ⟨tb_3 _ (List.mem_of_getElem? (i := 134) rfl), rfl⟩
theorem co_X2_touchedIn : Cond.code yX2_touchedIn cX2_touchedIn 4 (some .int) ∈ TS := List.mem_filter.mpr ⟨tb_3 _ (List.mem_of_getElem? (i := 135) rfl), rfl⟩
theorem ml_L_97 : Cond.methodLink RL 97 yX9_thin ∈ TS := List.mem_filter.mpr ⟨tb_3 _ (List.mem_of_getElem? (i := 136) rfl), rfl⟩
theorem im_X9_thin : Cond.instanceMethod yX9_thin ∈ TS := List.mem_filter.mpr ⟨tb_3 _ (List.mem_of_getElem? (i := 137) rfl), rfl⟩
theorem se_X9_thin : Cond.selects RX9 yX9_thin yX9_thin ∈ TS := List.mem_filter.mpr ⟨tb_3 _ (List.mem_of_getElem? (i := 138) rfl), rfl⟩
theorem co_X9_thin : Cond.code yX9_thin cX9_thin 4 (some .int) ∈ TS := List.mem_filter.mpr ⟨tb_3 _ (List.mem_of_getElem? (i := 139) rfl), rfl⟩
theorem ml_X9_251 : Cond.methodLink RX9 251 yX9_refuseThinning ∈ TS := List.mem_filter.mpr ⟨tb_3 _ (List.mem_of_getElem? (i := 140) rfl), rfl⟩
theorem sm_X9_refuseThinning : Cond.static yX9_refuseThinning ∈ TS := List.mem_filter.mpr ⟨tb_3 _ (List.mem_of_getElem? (i := 141) rfl), rfl⟩
theorem co_X9_refuseThinning : Cond.code yX9_refuseThinning cX9_refuseThinning 2 (some .int) ∈ TS := List.mem_filter.mpr ⟨tb_3 _ (List.mem_of_getElem? (i := 142) rfl), rfl⟩
theorem ml_X9_254 : Cond.methodLink RX9 254 yX7_plan ∈ TS := List.mem_filter.mpr ⟨tb_3 _ (List.mem_of_getElem? (i := 143) rfl), rfl⟩
theorem im_X7_plan : Cond.instanceMethod yX7_plan ∈ TS := List.mem_filter.mpr ⟨tb_3 _ (List.mem_of_getElem? (i := 144) rfl), rfl⟩
theorem se_X7_plan : Cond.selects RX7 yX7_plan yX7_plan ∈ TS := List.mem_filter.mpr ⟨tb_3 _ (List.mem_of_getElem? (i := 145) rfl), rfl⟩
theorem co_X7_plan : Cond.code yX7_plan cX7_plan 5 none ∈ TS := List.mem_filter.mpr ⟨tb_3 _ (List.mem_of_getElem? (i := 146) rfl), rfl⟩
theorem ml_X7_27 : Cond.methodLink RX7 27 yX7_countBackwards ∈ TS := List.mem_filter.mpr ⟨tb_3 _ (List.mem_of_getElem? (i := 147) rfl), rfl⟩
theorem im_X7_countBackwards : Cond.instanceMethod yX7_countBackwards ∈ TS := List.mem_filter.mpr ⟨tb_3 _ (List.mem_of_getElem? (i := 149) rfl), rfl⟩
theorem co_X7_countBackwards : Cond.code yX7_countBackwards cX7_countBackwards 6 none ∈ TS := List.mem_filter.mpr ⟨tb_3 _ (List.mem_of_getElem? (i := 150) rfl), rfl⟩
theorem ml_X7_35 : Cond.methodLink RX7 35 yX7_mayFollow ∈ TS := List.mem_filter.mpr ⟨tb_3 _ (List.mem_of_getElem? (i := 151) rfl), rfl⟩
theorem sm_X7_mayFollow : Cond.static yX7_mayFollow ∈ TS := List.mem_filter.mpr ⟨tb_3 _ (List.mem_of_getElem? (i := 152) rfl), rfl⟩
theorem co_X7_mayFollow : Cond.code yX7_mayFollow cX7_mayFollow 5 (some .boolean) ∈ TS := List.mem_filter.mpr ⟨tb_3 _ (List.mem_of_getElem? (i := 153) rfl), rfl⟩
theorem ml_X7_45 : Cond.methodLink RX7 45 yX7_isNearLine ∈ TS := List.mem_filter.mpr ⟨tb_3 _ (List.mem_of_getElem? (i := 154) rfl), rfl⟩
theorem sm_X7_isNearLine : Cond.static yX7_isNearLine ∈ TS := List.mem_filter.mpr ⟨tb_3 _ (List.mem_of_getElem? (i := 155) rfl), rfl⟩
theorem co_X7_isNearLine : Cond.code yX7_isNearLine cX7_isNearLine 9 (some .boolean) ∈ TS := List.mem_filter.mpr ⟨tb_3 _ (List.mem_of_getElem? (i := 156) rfl), rfl⟩
theorem ml_X7_52 : Cond.methodLink RX7 52 Lib.Math.abs.name ∈ TS := List.mem_filter.mpr ⟨tb_3 _ (List.mem_of_getElem? (i := 157) rfl), rfl⟩
theorem sm_Math_absI : Cond.static Lib.Math.abs.name ∈ TS := List.mem_filter.mpr ⟨tb_3 _ (List.mem_of_getElem? (i := 158) rfl), rfl⟩
theorem co_Math_absI : Cond.code Lib.Math.abs.name Lib.Math.abs.code 1 (some .int) ∈ TS := List.mem_filter.mpr ⟨tb_3 _ (List.mem_of_getElem? (i := 159) rfl), rfl⟩
theorem ml_X7_31 : Cond.methodLink RX7 31 yX7_keep ∈ TS := List.mem_filter.mpr ⟨tb_3 _ (List.mem_of_getElem? (i := 160) rfl), rfl⟩
theorem im_X7_keep : Cond.instanceMethod yX7_keep ∈ TS := List.mem_filter.mpr ⟨tb_3 _ (List.mem_of_getElem? (i := 162) rfl), rfl⟩
theorem co_X7_keep : Cond.code yX7_keep cX7_keep 2 none ∈ TS := List.mem_filter.mpr ⟨tb_3 _ (List.mem_of_getElem? (i := 163) rfl), rfl⟩
theorem ml_L_101 : Cond.methodLink RL 101 yX9_kept ∈ TS := List.mem_filter.mpr ⟨tb_3 _ (List.mem_of_getElem? (i := 164) rfl), rfl⟩
theorem im_X9_kept : Cond.instanceMethod yX9_kept ∈ TS := List.mem_filter.mpr ⟨tb_3 _ (List.mem_of_getElem? (i := 165) rfl), rfl⟩
theorem se_X9_kept : Cond.selects RX9 yX9_kept yX9_kept ∈ TS := List.mem_filter.mpr ⟨tb_3 _ (List.mem_of_getElem? (i := 166) rfl), rfl⟩
theorem co_X9_kept : Cond.code yX9_kept cX9_kept 5 (some .int) ∈ TS := List.mem_filter.mpr ⟨tb_3 _ (List.mem_of_getElem? (i := 167) rfl), rfl⟩
theorem ml_L_105 : Cond.methodLink RL 105 yX9_thinned ∈ TS := List.mem_filter.mpr ⟨tb_3 _ (List.mem_of_getElem? (i := 168) rfl), rfl⟩
theorem im_X9_thinned : Cond.instanceMethod yX9_thinned ∈ TS := List.mem_filter.mpr ⟨tb_3 _ (List.mem_of_getElem? (i := 169) rfl), rfl⟩
theorem se_X9_thinned : Cond.selects RX9 yX9_thinned yX9_thinned ∈ TS := List.mem_filter.mpr ⟨tb_3 _ (List.mem_of_getElem? (i := 170) rfl), rfl⟩
theorem co_X9_thinned : Cond.code yX9_thinned cX9_thinned 6 (some .int) ∈ TS := List.mem_filter.mpr ⟨tb_3 _ (List.mem_of_getElem? (i := 171) rfl), rfl⟩
theorem ml_X9_264 : Cond.methodLink RX9 264 yX8_keepOnly ∈ TS := List.mem_filter.mpr ⟨tb_3 _ (List.mem_of_getElem? (i := 172) rfl), rfl⟩
theorem im_X8_keepOnly : Cond.instanceMethod yX8_keepOnly ∈ TS := List.mem_filter.mpr ⟨tb_3 _ (List.mem_of_getElem? (i := 173) rfl), rfl⟩
theorem se_X8_keepOnly : Cond.selects RX8 yX8_keepOnly yX8_keepOnly ∈ TS := List.mem_filter.mpr ⟨tb_3 _ (List.mem_of_getElem? (i := 174) rfl), rfl⟩
theorem co_X8_keepOnly : Cond.code yX8_keepOnly cX8_keepOnly 4 none ∈ TS := List.mem_filter.mpr ⟨tb_3 _ (List.mem_of_getElem? (i := 175) rfl), rfl⟩
theorem ml_L_109 : Cond.methodLink RL 109 yX9_pass ∈ TS := List.mem_filter.mpr ⟨tb_3 _ (List.mem_of_getElem? (i := 176) rfl), rfl⟩
theorem im_X9_pass : Cond.instanceMethod yX9_pass ∈ TS := List.mem_filter.mpr ⟨tb_3 _ (List.mem_of_getElem? (i := 177) rfl), rfl⟩
theorem se_X9_pass : Cond.selects RX9 yX9_pass yX9_pass ∈ TS := List.mem_filter.mpr ⟨tb_3 _ (List.mem_of_getElem? (i := 178) rfl), rfl⟩
theorem co_X9_pass : Cond.code yX9_pass cX9_pass 2 (some .int) ∈ TS := List.mem_filter.mpr ⟨tb_3 _ (List.mem_of_getElem? (i := 179) rfl), rfl⟩
theorem ml_L_113 : Cond.methodLink RL 113 yX9_stand ∈ TS := List.mem_filter.mpr ⟨tb_3 _ (List.mem_of_getElem? (i := 180) rfl), rfl⟩
theorem im_X9_stand : Cond.instanceMethod yX9_stand ∈ TS := List.mem_filter.mpr ⟨tb_3 _ (List.mem_of_getElem? (i := 181) rfl), rfl⟩
theorem se_X9_stand : Cond.selects RX9 yX9_stand yX9_stand ∈ TS := List.mem_filter.mpr ⟨tb_3 _ (List.mem_of_getElem? (i := 182) rfl), rfl⟩
theorem co_X9_stand : Cond.code yX9_stand cX9_stand 5 (some .int) ∈ TS := List.mem_filter.mpr ⟨tb_3 _ (List.mem_of_getElem? (i := 183) rfl), rfl⟩
theorem ml_L_117 : Cond.methodLink RL 117 yX9_changes ∈ TS := List.mem_filter.mpr ⟨tb_3 _ (List.mem_of_getElem? (i := 184) rfl), rfl⟩
theorem im_X9_changes : Cond.instanceMethod yX9_changes ∈ TS := List.mem_filter.mpr ⟨tb_3 _ (List.mem_of_getElem? (i := 185) rfl), rfl⟩
theorem se_X9_changes : Cond.selects RX9 yX9_changes yX9_changes ∈ TS := List.mem_filter.mpr ⟨tb_3 _ (List.mem_of_getElem? (i := 186) rfl), rfl⟩
theorem co_X9_changes : Cond.code yX9_changes cX9_changes 6 (some .int) ∈ TS := List.mem_filter.mpr ⟨tb_3 _ (List.mem_of_getElem? (i := 187) rfl), rfl⟩
theorem ml_X9_268 : Cond.methodLink RX9 268 yX9_refuseChange ∈ TS := List.mem_filter.mpr ⟨tb_3 _ (List.mem_of_getElem? (i := 188) rfl), rfl⟩
theorem im_X9_refuseChange : Cond.instanceMethod yX9_refuseChange ∈ TS := List.mem_filter.mpr ⟨tb_3 _ (List.mem_of_getElem? (i := 190) rfl), rfl⟩
theorem co_X9_refuseChange : Cond.code yX9_refuseChange cX9_refuseChange 3 (some .int) ∈ TS := List.mem_filter.mpr ⟨tb_3 _ (List.mem_of_getElem? (i := 191) rfl), rfl⟩
theorem ml_X9_274 : Cond.methodLink RX9 274 yX9_isStand ∈ TS := List.mem_filter.mpr ⟨tb_3 _ (List.mem_of_getElem? (i := 192) rfl), rfl⟩
theorem im_X9_isStand : Cond.instanceMethod yX9_isStand ∈ TS := List.mem_filter.mpr ⟨tb_3 _ (List.mem_of_getElem? (i := 194) rfl), rfl⟩
theorem co_X9_isStand : Cond.code yX9_isStand cX9_isStand 2 (some .boolean) ∈ TS := List.mem_filter.mpr ⟨tb_3 _ (List.mem_of_getElem? (i := 195) rfl), rfl⟩
theorem ml_X9_271 : Cond.methodLink RX9 271 yX9_isChange ∈ TS := List.mem_filter.mpr ⟨tb_3 _ (List.mem_of_getElem? (i := 196) rfl), rfl⟩
theorem im_X9_isChange : Cond.instanceMethod yX9_isChange ∈ TS := List.mem_filter.mpr ⟨tb_3 _ (List.mem_of_getElem? (i := 198) rfl), rfl⟩
theorem co_X9_isChange : Cond.code yX9_isChange cX9_isChange 5 (some .boolean) ∈ TS := List.mem_filter.mpr ⟨tb_3 _ (List.mem_of_getElem? (i := 199) rfl), rfl⟩
theorem ml_L_121 : Cond.methodLink RL 121 yX9_change ∈ TS := List.mem_filter.mpr ⟨tb_3 _ (List.mem_of_getElem? (i := 200) rfl), rfl⟩
theorem im_X9_change : Cond.instanceMethod yX9_change ∈ TS := List.mem_filter.mpr ⟨tb_3 _ (List.mem_of_getElem? (i := 201) rfl), rfl⟩
theorem se_X9_change : Cond.selects RX9 yX9_change yX9_change ∈ TS := List.mem_filter.mpr ⟨tb_3 _ (List.mem_of_getElem? (i := 202) rfl), rfl⟩
theorem co_X9_change : Cond.code yX9_change cX9_change 7 (some .int) ∈ TS := List.mem_filter.mpr ⟨tb_3 _ (List.mem_of_getElem? (i := 203) rfl), rfl⟩
theorem ml_L_125 : Cond.methodLink RL 125 yX9_still ∈ TS := List.mem_filter.mpr ⟨tb_3 _ (List.mem_of_getElem? (i := 204) rfl), rfl⟩
theorem im_X9_still : Cond.instanceMethod yX9_still ∈ TS := List.mem_filter.mpr ⟨tb_3 _ (List.mem_of_getElem? (i := 205) rfl), rfl⟩
theorem se_X9_still : Cond.selects RX9 yX9_still yX9_still ∈ TS := List.mem_filter.mpr ⟨tb_3 _ (List.mem_of_getElem? (i := 206) rfl), rfl⟩
theorem co_X9_still : Cond.code yX9_still cX9_still 6 (some .int) ∈ TS := List.mem_filter.mpr ⟨tb_3 _ (List.mem_of_getElem? (i := 207) rfl), rfl⟩
theorem ml_L_129 : Cond.methodLink RL 129 yX9_load ∈ TS := List.mem_filter.mpr ⟨tb_3 _ (List.mem_of_getElem? (i := 208) rfl), rfl⟩
theorem im_X9_load : Cond.instanceMethod yX9_load ∈ TS := List.mem_filter.mpr ⟨tb_3 _ (List.mem_of_getElem? (i := 209) rfl), rfl⟩
theorem se_X9_load : Cond.selects RX9 yX9_load yX9_load ∈ TS := List.mem_filter.mpr ⟨tb_3 _ (List.mem_of_getElem? (i := 210) rfl), rfl⟩
theorem co_X9_load : Cond.code yX9_load cX9_load 2 (some .int) ∈ TS := List.mem_filter.mpr ⟨tb_3 _ (List.mem_of_getElem? (i := 211) rfl), rfl⟩
theorem ml_X9_277 : Cond.methodLink RX9 277 yX9_countColumns ∈ TS := List.mem_filter.mpr ⟨tb_3 _ (List.mem_of_getElem? (i := 212) rfl), rfl⟩
theorem im_X9_countColumns : Cond.instanceMethod yX9_countColumns ∈ TS := List.mem_filter.mpr ⟨tb_3 _ (List.mem_of_getElem? (i := 214) rfl), rfl⟩
theorem co_X9_countColumns : Cond.code yX9_countColumns cX9_countColumns 4 none ∈ TS := List.mem_filter.mpr ⟨tb_3 _ (List.mem_of_getElem? (i := 215) rfl), rfl⟩
theorem ml_X9_339 : Cond.methodLink RX9 339 yX1_clear ∈ TS := List.mem_filter.mpr ⟨tb_3 _ (List.mem_of_getElem? (i := 216) rfl), rfl⟩
theorem im_X1_clear : Cond.instanceMethod yX1_clear ∈ TS := List.mem_filter.mpr ⟨tb_3 _ (List.mem_of_getElem? (i := 217) rfl), rfl⟩
theorem se_X1_clear : Cond.selects RX1 yX1_clear yX1_clear ∈ TS := List.mem_filter.mpr ⟨tb_3 _ (List.mem_of_getElem? (i := 218) rfl), rfl⟩
theorem co_X1_clear : Cond.code yX1_clear cX1_clear 2 none ∈ TS := List.mem_filter.mpr ⟨tb_3 _ (List.mem_of_getElem? (i := 219) rfl), rfl⟩
theorem ml_X9_340 : Cond.methodLink RX9 340 yX1_add ∈ TS := List.mem_filter.mpr ⟨tb_3 _ (List.mem_of_getElem? (i := 220) rfl), rfl⟩
theorem im_X1_add : Cond.instanceMethod yX1_add ∈ TS := List.mem_filter.mpr ⟨tb_3 _ (List.mem_of_getElem? (i := 221) rfl), rfl⟩
theorem se_X1_add : Cond.selects RX1 yX1_add yX1_add ∈ TS := List.mem_filter.mpr ⟨tb_3 _ (List.mem_of_getElem? (i := 222) rfl), rfl⟩
theorem co_X1_add : Cond.code yX1_add cX1_add 2 none ∈ TS := List.mem_filter.mpr ⟨tb_3 _ (List.mem_of_getElem? (i := 223) rfl), rfl⟩
theorem mn_X1_15 : Cond.methodLinkNest RX1 15 yX9_isWithin RX9 ∈ lw_tbl := tb_3 _ (List.mem_of_getElem? (i := 224) rfl)
theorem ml_L_133 : Cond.methodLink RL 133 yX9_share ∈ TS := List.mem_filter.mpr ⟨tb_3 _ (List.mem_of_getElem? (i := 225) rfl), rfl⟩
theorem im_X9_share : Cond.instanceMethod yX9_share ∈ TS := List.mem_filter.mpr ⟨tb_3 _ (List.mem_of_getElem? (i := 226) rfl), rfl⟩
theorem se_X9_share : Cond.selects RX9 yX9_share yX9_share ∈ TS := List.mem_filter.mpr ⟨tb_3 _ (List.mem_of_getElem? (i := 227) rfl), rfl⟩
theorem co_X9_share : Cond.code yX9_share cX9_share 2 (some .int) ∈ TS := List.mem_filter.mpr ⟨tb_3 _ (List.mem_of_getElem? (i := 228) rfl), rfl⟩
theorem ml_X9_283 : Cond.methodLink RX9 283 yX1_leastGreatest ∈ TS := List.mem_filter.mpr ⟨tb_3 _ (List.mem_of_getElem? (i := 229) rfl), rfl⟩
theorem im_X1_leastGreatest : Cond.instanceMethod yX1_leastGreatest ∈ TS := List.mem_filter.mpr ⟨tb_3 _ (List.mem_of_getElem? (i := 230) rfl), rfl⟩
theorem se_X1_leastGreatest : Cond.selects RX1 yX1_leastGreatest yX1_leastGreatest ∈ TS := List.mem_filter.mpr ⟨tb_3 _ (List.mem_of_getElem? (i := 231) rfl), rfl⟩
theorem co_X1_leastGreatest : Cond.code yX1_leastGreatest cX1_leastGreatest 3 (some .int) ∈ TS := List.mem_filter.mpr ⟨tb_3 _ (List.mem_of_getElem? (i := 232) rfl), rfl⟩
theorem ml_X1_19 : Cond.methodLink RX1 19 yX1_fits ∈ TS := List.mem_filter.mpr ⟨tb_3 _ (List.mem_of_getElem? (i := 233) rfl), rfl⟩
theorem im_X1_fits : Cond.instanceMethod yX1_fits ∈ TS := List.mem_filter.mpr ⟨tb_3 _ (List.mem_of_getElem? (i := 235) rfl), rfl⟩
theorem co_X1_fits : Cond.code yX1_fits cX1_fits 7 (some .boolean) ∈ TS := List.mem_filter.mpr ⟨tb_3 _ (List.mem_of_getElem? (i := 236) rfl), rfl⟩
theorem ml_L_137 : Cond.methodLink RL 137 yX9_gets ∈ TS := List.mem_filter.mpr ⟨tb_3 _ (List.mem_of_getElem? (i := 237) rfl), rfl⟩
theorem im_X9_gets : Cond.instanceMethod yX9_gets ∈ TS := List.mem_filter.mpr ⟨tb_3 _ (List.mem_of_getElem? (i := 238) rfl), rfl⟩
theorem se_X9_gets : Cond.selects RX9 yX9_gets yX9_gets ∈ TS := List.mem_filter.mpr ⟨tb_3 _ (List.mem_of_getElem? (i := 239) rfl), rfl⟩
theorem co_X9_gets : Cond.code yX9_gets cX9_gets 3 (some .int) ∈ TS := List.mem_filter.mpr ⟨tb_4 _ (List.mem_of_getElem? (i := 0) rfl), rfl⟩
theorem ml_X9_286 : Cond.methodLink RX9 286 yX1_partOf ∈ TS := List.mem_filter.mpr ⟨tb_4 _ (List.mem_of_getElem? (i := 1) rfl), rfl⟩
theorem im_X1_partOf : Cond.instanceMethod yX1_partOf ∈ TS := List.mem_filter.mpr ⟨tb_4 _ (List.mem_of_getElem? (i := 2) rfl), rfl⟩
theorem se_X1_partOf : Cond.selects RX1 yX1_partOf yX1_partOf ∈ TS := List.mem_filter.mpr ⟨tb_4 _ (List.mem_of_getElem? (i := 3) rfl), rfl⟩
theorem co_X1_partOf : Cond.code yX1_partOf cX1_partOf 7 (some .int) ∈ TS := List.mem_filter.mpr ⟨tb_4 _ (List.mem_of_getElem? (i := 4) rfl), rfl⟩
theorem ml_X1_22 : Cond.methodLink RX1 22 yX1_leastGreatest ∈ TS := List.mem_filter.mpr ⟨tb_4 _ (List.mem_of_getElem? (i := 5) rfl), rfl⟩
theorem ml_L_141 : Cond.methodLink RL 141 yX9_blur ∈ TS := List.mem_filter.mpr ⟨tb_4 _ (List.mem_of_getElem? (i := 6) rfl), rfl⟩
theorem im_X9_blur : Cond.instanceMethod yX9_blur ∈ TS := List.mem_filter.mpr ⟨tb_4 _ (List.mem_of_getElem? (i := 7) rfl), rfl⟩
theorem se_X9_blur : Cond.selects RX9 yX9_blur yX9_blur ∈ TS := List.mem_filter.mpr ⟨tb_4 _ (List.mem_of_getElem? (i := 8) rfl), rfl⟩
theorem co_X9_blur : Cond.code yX9_blur cX9_blur 7 (some .int) ∈ TS := List.mem_filter.mpr ⟨tb_4 _ (List.mem_of_getElem? (i := 9) rfl), rfl⟩
theorem ml_X9_289 : Cond.methodLink RX9 289 yX9_isBlur ∈ TS := List.mem_filter.mpr ⟨tb_4 _ (List.mem_of_getElem? (i := 10) rfl), rfl⟩
theorem sm_X9_isBlur : Cond.static yX9_isBlur ∈ TS := List.mem_filter.mpr ⟨tb_4 _ (List.mem_of_getElem? (i := 11) rfl), rfl⟩
theorem co_X9_isBlur : Cond.code yX9_isBlur cX9_isBlur 2 (some .boolean) ∈ TS := List.mem_filter.mpr ⟨tb_4 _ (List.mem_of_getElem? (i := 12) rfl), rfl⟩
theorem ml_L_146 : Cond.methodLink RL 146 yX9_together ∈ TS := List.mem_filter.mpr ⟨tb_4 _ (List.mem_of_getElem? (i := 13) rfl), rfl⟩
theorem im_X9_together : Cond.instanceMethod yX9_together ∈ TS := List.mem_filter.mpr ⟨tb_4 _ (List.mem_of_getElem? (i := 14) rfl), rfl⟩
theorem se_X9_together : Cond.selects RX9 yX9_together yX9_together ∈ TS := List.mem_filter.mpr ⟨tb_4 _ (List.mem_of_getElem? (i := 15) rfl), rfl⟩
theorem co_X9_together : Cond.code yX9_together cX9_together 8 (some .int) ∈ TS := List.mem_filter.mpr ⟨tb_4 _ (List.mem_of_getElem? (i := 16) rfl), rfl⟩
theorem ml_X9_292 : Cond.methodLink RX9 292 yX9_agreeing ∈ TS := List.mem_filter.mpr ⟨tb_4 _ (List.mem_of_getElem? (i := 17) rfl), rfl⟩
theorem sm_X9_agreeing : Cond.static yX9_agreeing ∈ TS := List.mem_filter.mpr ⟨tb_4 _ (List.mem_of_getElem? (i := 18) rfl), rfl⟩
theorem co_X9_agreeing : Cond.code yX9_agreeing cX9_agreeing 9 (some .int) ∈ TS := List.mem_filter.mpr ⟨tb_4 _ (List.mem_of_getElem? (i := 19) rfl), rfl⟩
theorem ml_X9_341 : Cond.methodLink RX9 341 Lib.Math.max.name ∈ TS := List.mem_filter.mpr ⟨tb_4 _ (List.mem_of_getElem? (i := 20) rfl), rfl⟩
theorem ml_X9_344 : Cond.methodLink RX9 344 Lib.Math.min.name ∈ TS := List.mem_filter.mpr ⟨tb_4 _ (List.mem_of_getElem? (i := 21) rfl), rfl⟩
theorem ml_L_150 : Cond.methodLink RL 150 yX9_count ∈ TS := List.mem_filter.mpr ⟨tb_4 _ (List.mem_of_getElem? (i := 22) rfl), rfl⟩
theorem im_X9_count : Cond.instanceMethod yX9_count ∈ TS := List.mem_filter.mpr ⟨tb_4 _ (List.mem_of_getElem? (i := 23) rfl), rfl⟩
theorem se_X9_count : Cond.selects RX9 yX9_count yX9_count ∈ TS := List.mem_filter.mpr ⟨tb_4 _ (List.mem_of_getElem? (i := 24) rfl), rfl⟩
theorem co_X9_count : Cond.code yX9_count cX9_count 2 (some .int) ∈ TS := List.mem_filter.mpr ⟨tb_4 _ (List.mem_of_getElem? (i := 25) rfl), rfl⟩
theorem ml_X9_295 : Cond.methodLink RX9 295 yX9_allRows ∈ TS := List.mem_filter.mpr ⟨tb_4 _ (List.mem_of_getElem? (i := 26) rfl), rfl⟩
theorem im_X9_allRows : Cond.instanceMethod yX9_allRows ∈ TS := List.mem_filter.mpr ⟨tb_4 _ (List.mem_of_getElem? (i := 28) rfl), rfl⟩
theorem co_X9_allRows : Cond.code yX9_allRows cX9_allRows 3 (some .int) ∈ TS := List.mem_filter.mpr ⟨tb_4 _ (List.mem_of_getElem? (i := 29) rfl), rfl⟩
theorem ml_X9_298 : Cond.methodLink RX9 298 yX9_thingsWithRows ∈ TS := List.mem_filter.mpr ⟨tb_4 _ (List.mem_of_getElem? (i := 30) rfl), rfl⟩
theorem im_X9_thingsWithRows : Cond.instanceMethod yX9_thingsWithRows ∈ TS := List.mem_filter.mpr ⟨tb_4 _ (List.mem_of_getElem? (i := 32) rfl), rfl⟩
theorem co_X9_thingsWithRows : Cond.code yX9_thingsWithRows cX9_thingsWithRows 3 (some .int) ∈ TS := List.mem_filter.mpr ⟨tb_4 _ (List.mem_of_getElem? (i := 33) rfl), rfl⟩
theorem ml_X9_301 : Cond.methodLink RX9 301 yX9_thingsThere ∈ TS := List.mem_filter.mpr ⟨tb_4 _ (List.mem_of_getElem? (i := 34) rfl), rfl⟩
theorem im_X9_thingsThere : Cond.instanceMethod yX9_thingsThere ∈ TS := List.mem_filter.mpr ⟨tb_4 _ (List.mem_of_getElem? (i := 36) rfl), rfl⟩
theorem co_X9_thingsThere : Cond.code yX9_thingsThere cX9_thingsThere 3 (some .int) ∈ TS := List.mem_filter.mpr ⟨tb_4 _ (List.mem_of_getElem? (i := 37) rfl), rfl⟩
theorem cl_L_10 : Cond.classLink RL 10 RX10 ∈ TS := List.mem_filter.mpr ⟨tb_4 _ (List.mem_of_getElem? (i := 38) rfl), rfl⟩
theorem ist_X10 : Cond.instantiable RX10 32 ∈ TS := List.mem_filter.mpr ⟨tb_4 _ (List.mem_of_getElem? (i := 39) rfl), rfl⟩
theorem ml_L_12 : Cond.methodLink RL 12 yX10_init ∈ TS := List.mem_filter.mpr ⟨tb_4 _ (List.mem_of_getElem? (i := 40) rfl), rfl⟩
theorem im_X10_init : Cond.instanceMethod yX10_init ∈ TS := List.mem_filter.mpr ⟨tb_4 _ (List.mem_of_getElem? (i := 41) rfl), rfl⟩
theorem co_X10_init : Cond.code yX10_init cX10_init 1 none ∈ TS := List.mem_filter.mpr ⟨tb_4 _ (List.mem_of_getElem? (i := 42) rfl), rfl⟩
theorem ml_X10_1 : Cond.methodLink RX10 1 objectInit ∈ TS := List.mem_filter.mpr ⟨tb_4 _ (List.mem_of_getElem? (i := 43) rfl), rfl⟩
theorem fl_X10_7 : Cond.fieldLink RX10 7 "MovingThingsModel" "many" "[I" ∈ TS := List.mem_filter.mpr ⟨tb_4 _ (List.mem_of_getElem? (i := 44) rfl), rfl⟩
theorem fl_X10_13 : Cond.fieldLink RX10 13 "MovingThingsModel" "when" "[I" ∈ TS := List.mem_filter.mpr ⟨tb_4 _ (List.mem_of_getElem? (i := 45) rfl), rfl⟩
theorem fl_X10_16 : Cond.fieldLink RX10 16 "MovingThingsModel" "rowX" "[I" ∈ TS := List.mem_filter.mpr ⟨tb_4 _ (List.mem_of_getElem? (i := 46) rfl), rfl⟩
theorem fl_X10_19 : Cond.fieldLink RX10 19 "MovingThingsModel" "rowY" "[I" ∈ TS := List.mem_filter.mpr ⟨tb_4 _ (List.mem_of_getElem? (i := 47) rfl), rfl⟩
theorem fl_X10_22 : Cond.fieldLink RX10 22 "MovingThingsModel" "kinds" "[I" ∈ TS := List.mem_filter.mpr ⟨tb_4 _ (List.mem_of_getElem? (i := 48) rfl), rfl⟩
theorem fl_X10_95 : Cond.fieldLink RX10 95 "MovingThingsModel" "mends" "I" ∈ TS := List.mem_filter.mpr ⟨tb_4 _ (List.mem_of_getElem? (i := 49) rfl), rfl⟩
theorem fl_X10_107 : Cond.fieldLink RX10 107 "MovingThingsModel" "placeX" "J" ∈ TS := List.mem_filter.mpr ⟨tb_4 _ (List.mem_of_getElem? (i := 50) rfl), rfl⟩
theorem fl_X10_111 : Cond.fieldLink RX10 111 "MovingThingsModel" "placeY" "J" ∈ TS := List.mem_filter.mpr ⟨tb_4 _ (List.mem_of_getElem? (i := 51) rfl), rfl⟩
theorem fl_X10_114 : Cond.fieldLink RX10 114 "MovingThingsModel" "below" "J" ∈ TS := List.mem_filter.mpr ⟨tb_4 _ (List.mem_of_getElem? (i := 52) rfl), rfl⟩
theorem fl_X10_150 : Cond.fieldLink RX10 150 "MovingThingsModel" "runs" "I" ∈ TS := List.mem_filter.mpr ⟨tb_4 _ (List.mem_of_getElem? (i := 53) rfl), rfl⟩
theorem fl_X10_153 : Cond.fieldLink RX10 153 "MovingThingsModel" "run" "I" ∈ TS := List.mem_filter.mpr ⟨tb_4 _ (List.mem_of_getElem? (i := 54) rfl), rfl⟩
theorem fl_X10_25 : Cond.fieldLink RX10 25 "MovingThingsModel" "runFrom" "[I" ∈ TS := List.mem_filter.mpr ⟨tb_4 _ (List.mem_of_getElem? (i := 55) rfl), rfl⟩
theorem fl_X10_28 : Cond.fieldLink RX10 28 "MovingThingsModel" "runTo" "[I" ∈ TS := List.mem_filter.mpr ⟨tb_4 _ (List.mem_of_getElem? (i := 56) rfl), rfl⟩
theorem fl_X10_167 : Cond.fieldLink RX10 167 "MovingThingsModel" "farAbove" "J" ∈ TS := List.mem_filter.mpr ⟨tb_4 _ (List.mem_of_getElem? (i := 57) rfl), rfl⟩
theorem fl_X10_170 : Cond.fieldLink RX10 170 "MovingThingsModel" "farBelow" "J" ∈ TS := List.mem_filter.mpr ⟨tb_4 _ (List.mem_of_getElem? (i := 58) rfl), rfl⟩
theorem fl_X10_195 : Cond.fieldLink RX10 195 "MovingThingsModel" "legs" "I" ∈ TS := List.mem_filter.mpr ⟨tb_4 _ (List.mem_of_getElem? (i := 59) rfl), rfl⟩
theorem fl_X10_31 : Cond.fieldLink RX10 31 "MovingThingsModel" "legBox" "[I" ∈ TS := List.mem_filter.mpr ⟨tb_4 _ (List.mem_of_getElem? (i := 60) rfl), rfl⟩
theorem fl_X10_201 : Cond.fieldLink RX10 201 "MovingThingsModel" "pages" "I" ∈ TS := List.mem_filter.mpr ⟨tb_4 _ (List.mem_of_getElem? (i := 61) rfl), rfl⟩
theorem fl_X10_34 : Cond.fieldLink RX10 34 "MovingThingsModel" "pageBox" "[I" ∈ TS := List.mem_filter.mpr ⟨tb_4 _ (List.mem_of_getElem? (i := 62) rfl), rfl⟩
theorem fl_X10_37 : Cond.fieldLink RX10 37 "MovingThingsModel" "isEmpty" "[Z" ∈ TS := List.mem_filter.mpr ⟨tb_4 _ (List.mem_of_getElem? (i := 63) rfl), rfl⟩
theorem fl_X10_41 : Cond.fieldLink RX10 41 "MovingThingsModel" "fork" "[I" ∈ TS := List.mem_filter.mpr ⟨tb_4 _ (List.mem_of_getElem? (i := 64) rfl), rfl⟩
theorem fl_X10_44 : Cond.fieldLink RX10 44 "MovingThingsModel" "depth" "[I" ∈ TS := List.mem_filter.mpr ⟨tb_4 _ (List.mem_of_getElem? (i := 65) rfl), rfl⟩
theorem fl_X10_47 : Cond.fieldLink RX10 47 "MovingThingsModel" "leafMany" "[I" ∈ TS := List.mem_filter.mpr ⟨tb_4 _ (List.mem_of_getElem? (i := 66) rfl), rfl⟩
theorem fl_X10_50 : Cond.fieldLink RX10 50 "MovingThingsModel" "leaf" "[I" ∈ TS := List.mem_filter.mpr ⟨tb_4 _ (List.mem_of_getElem? (i := 67) rfl), rfl⟩
theorem fl_X10_53 : Cond.fieldLink RX10 53 "MovingThingsModel" "sorted" "[I" ∈ TS := List.mem_filter.mpr ⟨tb_4 _ (List.mem_of_getElem? (i := 68) rfl), rfl⟩
theorem fl_X10_56 : Cond.fieldLink RX10 56 "MovingThingsModel" "bestSorted" "[I" ∈ TS := List.mem_filter.mpr ⟨tb_4 _ (List.mem_of_getElem? (i := 69) rfl), rfl⟩
theorem fl_X10_59 : Cond.fieldLink RX10 59 "MovingThingsModel" "box" "[I" ∈ TS := List.mem_filter.mpr ⟨tb_4 _ (List.mem_of_getElem? (i := 70) rfl), rfl⟩
theorem fl_X10_62 : Cond.fieldLink RX10 62 "MovingThingsModel" "fewest" "[I" ∈ TS := List.mem_filter.mpr ⟨tb_4 _ (List.mem_of_getElem? (i := 71) rfl), rfl⟩
theorem fl_X10_65 : Cond.fieldLink RX10 65 "MovingThingsModel" "keeps" "[I" ∈ TS := List.mem_filter.mpr ⟨tb_4 _ (List.mem_of_getElem? (i := 72) rfl), rfl⟩
theorem fl_X10_269 : Cond.fieldLink RX10 269 "MovingThingsModel" "now" "I" ∈ TS := List.mem_filter.mpr ⟨tb_4 _ (List.mem_of_getElem? (i := 73) rfl), rfl⟩
theorem fl_X10_272 : Cond.fieldLink RX10 272 "MovingThingsModel" "stands" "I" ∈ TS := List.mem_filter.mpr ⟨tb_4 _ (List.mem_of_getElem? (i := 74) rfl), rfl⟩
theorem fl_X10_68 : Cond.fieldLink RX10 68 "MovingThingsModel" "standBox" "[I" ∈ TS := List.mem_filter.mpr ⟨tb_4 _ (List.mem_of_getElem? (i := 75) rfl), rfl⟩
theorem ml_L_17 : Cond.methodLink RL 17 yX10_say ∈ TS := List.mem_filter.mpr ⟨tb_4 _ (List.mem_of_getElem? (i := 141) rfl), rfl⟩
theorem im_X10_say : Cond.instanceMethod yX10_say ∈ TS := List.mem_filter.mpr ⟨tb_4 _ (List.mem_of_getElem? (i := 142) rfl), rfl⟩
theorem se_X10_say : Cond.selects RX10 yX10_say yX10_say ∈ TS := List.mem_filter.mpr ⟨tb_4 _ (List.mem_of_getElem? (i := 143) rfl), rfl⟩
theorem co_X10_say : Cond.code yX10_say cX10_say 8 (some .int) ∈ TS := List.mem_filter.mpr ⟨tb_4 _ (List.mem_of_getElem? (i := 144) rfl), rfl⟩
theorem ml_X10_79 : Cond.methodLink RX10 79 yX10_isThing ∈ TS := List.mem_filter.mpr ⟨tb_4 _ (List.mem_of_getElem? (i := 145) rfl), rfl⟩
theorem sm_X10_isThing : Cond.static yX10_isThing ∈ TS := List.mem_filter.mpr ⟨tb_4 _ (List.mem_of_getElem? (i := 146) rfl), rfl⟩
theorem co_X10_isThing : Cond.code yX10_isThing cX10_isThing 1 (some .boolean) ∈ TS := List.mem_filter.mpr ⟨tb_4 _ (List.mem_of_getElem? (i := 147) rfl), rfl⟩
theorem kl_X10_71 : Cond.constantLong RX10 71 (9) ∈ TS := List.mem_filter.mpr ⟨tb_4 _ (List.mem_of_getElem? (i := 148) rfl), rfl⟩
theorem ml_X10_73 : Cond.methodLink RX10 73 yX10_in ∈ TS := List.mem_filter.mpr ⟨tb_4 _ (List.mem_of_getElem? (i := 149) rfl), rfl⟩
theorem sm_X10_in : Cond.static yX10_in ∈ TS := List.mem_filter.mpr ⟨tb_4 _ (List.mem_of_getElem? (i := 150) rfl), rfl⟩
theorem co_X10_in : Cond.code yX10_in cX10_in 6 (some .boolean) ∈ TS := List.mem_filter.mpr ⟨tb_4 _ (List.mem_of_getElem? (i := 151) rfl), rfl⟩
theorem kc_X10_83 : Cond.constant RX10 83 (-900001) ∈ TS := List.mem_filter.mpr ⟨tb_4 _ (List.mem_of_getElem? (i := 152) rfl), rfl⟩
theorem ml_X10_84 : Cond.methodLink RX10 84 yX10_isMinute ∈ TS := List.mem_filter.mpr ⟨tb_4 _ (List.mem_of_getElem? (i := 153) rfl), rfl⟩
theorem sm_X10_isMinute : Cond.static yX10_isMinute ∈ TS := List.mem_filter.mpr ⟨tb_4 _ (List.mem_of_getElem? (i := 154) rfl), rfl⟩
theorem co_X10_isMinute : Cond.code yX10_isMinute cX10_isMinute 1 (some .boolean) ∈ TS := List.mem_filter.mpr ⟨tb_4 _ (List.mem_of_getElem? (i := 155) rfl), rfl⟩
theorem kl_X10_77 : Cond.constantLong RX10 77 (199) ∈ TS := List.mem_filter.mpr ⟨tb_4 _ (List.mem_of_getElem? (i := 156) rfl), rfl⟩
theorem kl_X10_87 : Cond.constantLong RX10 87 (99) ∈ TS := List.mem_filter.mpr ⟨tb_4 _ (List.mem_of_getElem? (i := 157) rfl), rfl⟩
theorem kc_X10_89 : Cond.constant RX10 89 (-900002) ∈ TS := List.mem_filter.mpr ⟨tb_4 _ (List.mem_of_getElem? (i := 158) rfl), rfl⟩
theorem kc_X10_90 : Cond.constant RX10 90 (-900004) ∈ TS := List.mem_filter.mpr ⟨tb_4 _ (List.mem_of_getElem? (i := 159) rfl), rfl⟩
theorem ml_X10_91 : Cond.methodLink RX10 91 yX10_move ∈ TS := List.mem_filter.mpr ⟨tb_4 _ (List.mem_of_getElem? (i := 160) rfl), rfl⟩
theorem im_X10_move : Cond.instanceMethod yX10_move ∈ TS := List.mem_filter.mpr ⟨tb_4 _ (List.mem_of_getElem? (i := 162) rfl), rfl⟩
theorem co_X10_move : Cond.code yX10_move cX10_move 4 none ∈ TS := List.mem_filter.mpr ⟨tb_4 _ (List.mem_of_getElem? (i := 163) rfl), rfl⟩
theorem ml_L_22 : Cond.methodLink RL 22 yX10_forget ∈ TS := List.mem_filter.mpr ⟨tb_4 _ (List.mem_of_getElem? (i := 164) rfl), rfl⟩
theorem im_X10_forget : Cond.instanceMethod yX10_forget ∈ TS := List.mem_filter.mpr ⟨tb_4 _ (List.mem_of_getElem? (i := 165) rfl), rfl⟩
theorem se_X10_forget : Cond.selects RX10 yX10_forget yX10_forget ∈ TS := List.mem_filter.mpr ⟨tb_4 _ (List.mem_of_getElem? (i := 166) rfl), rfl⟩
theorem co_X10_forget : Cond.code yX10_forget cX10_forget 3 (some .int) ∈ TS := List.mem_filter.mpr ⟨tb_4 _ (List.mem_of_getElem? (i := 167) rfl), rfl⟩
theorem ml_X10_99 : Cond.methodLink RX10 99 yX10_isRow ∈ TS := List.mem_filter.mpr ⟨tb_4 _ (List.mem_of_getElem? (i := 168) rfl), rfl⟩
theorem im_X10_isRow : Cond.instanceMethod yX10_isRow ∈ TS := List.mem_filter.mpr ⟨tb_4 _ (List.mem_of_getElem? (i := 170) rfl), rfl⟩
theorem co_X10_isRow : Cond.code yX10_isRow cX10_isRow 3 (some .boolean) ∈ TS := List.mem_filter.mpr ⟨tb_4 _ (List.mem_of_getElem? (i := 171) rfl), rfl⟩
theorem ml_X10_103 : Cond.methodLink RX10 103 yX10_drop ∈ TS := List.mem_filter.mpr ⟨tb_4 _ (List.mem_of_getElem? (i := 172) rfl), rfl⟩
theorem im_X10_drop : Cond.instanceMethod yX10_drop ∈ TS := List.mem_filter.mpr ⟨tb_4 _ (List.mem_of_getElem? (i := 174) rfl), rfl⟩
theorem co_X10_drop : Cond.code yX10_drop cX10_drop 4 none ∈ TS := List.mem_filter.mpr ⟨tb_4 _ (List.mem_of_getElem? (i := 175) rfl), rfl⟩
theorem ml_L_26 : Cond.methodLink RL 26 yX10_kind ∈ TS := List.mem_filter.mpr ⟨tb_4 _ (List.mem_of_getElem? (i := 176) rfl), rfl⟩
theorem im_X10_kind : Cond.instanceMethod yX10_kind ∈ TS := List.mem_filter.mpr ⟨tb_4 _ (List.mem_of_getElem? (i := 177) rfl), rfl⟩
theorem se_X10_kind : Cond.selects RX10 yX10_kind yX10_kind ∈ TS := List.mem_filter.mpr ⟨tb_4 _ (List.mem_of_getElem? (i := 178) rfl), rfl⟩
theorem co_X10_kind : Cond.code yX10_kind cX10_kind 4 (some .int) ∈ TS := List.mem_filter.mpr ⟨tb_4 _ (List.mem_of_getElem? (i := 179) rfl), rfl⟩
theorem ml_L_31 : Cond.methodLink RL 31 yX10_row ∈ TS := List.mem_filter.mpr ⟨tb_4 _ (List.mem_of_getElem? (i := 180) rfl), rfl⟩
theorem im_X10_row : Cond.instanceMethod yX10_row ∈ TS := List.mem_filter.mpr ⟨tb_4 _ (List.mem_of_getElem? (i := 181) rfl), rfl⟩
theorem se_X10_row : Cond.selects RX10 yX10_row yX10_row ∈ TS := List.mem_filter.mpr ⟨tb_4 _ (List.mem_of_getElem? (i := 182) rfl), rfl⟩
theorem co_X10_row : Cond.code yX10_row cX10_row 5 (some .int) ∈ TS := List.mem_filter.mpr ⟨tb_4 _ (List.mem_of_getElem? (i := 183) rfl), rfl⟩
theorem ml_L_36 : Cond.methodLink RL 36 yX10_at ∈ TS := List.mem_filter.mpr ⟨tb_4 _ (List.mem_of_getElem? (i := 184) rfl), rfl⟩
theorem im_X10_at : Cond.instanceMethod yX10_at ∈ TS := List.mem_filter.mpr ⟨tb_4 _ (List.mem_of_getElem? (i := 185) rfl), rfl⟩
theorem se_X10_at : Cond.selects RX10 yX10_at yX10_at ∈ TS := List.mem_filter.mpr ⟨tb_4 _ (List.mem_of_getElem? (i := 186) rfl), rfl⟩
theorem co_X10_at : Cond.code yX10_at cX10_at 5 (some .int) ∈ TS := List.mem_filter.mpr ⟨tb_4 _ (List.mem_of_getElem? (i := 187) rfl), rfl⟩
theorem ml_X10_130 : Cond.methodLink RX10 130 yX10_find ∈ TS := List.mem_filter.mpr ⟨tb_4 _ (List.mem_of_getElem? (i := 188) rfl), rfl⟩
theorem im_X10_find : Cond.instanceMethod yX10_find ∈ TS := List.mem_filter.mpr ⟨tb_4 _ (List.mem_of_getElem? (i := 190) rfl), rfl⟩
theorem co_X10_find : Cond.code yX10_find cX10_find 4 (some .boolean) ∈ TS := List.mem_filter.mpr ⟨tb_4 _ (List.mem_of_getElem? (i := 191) rfl), rfl⟩
theorem ml_X10_117 : Cond.methodLink RX10 117 yX10_stand ∈ TS := List.mem_filter.mpr ⟨tb_4 _ (List.mem_of_getElem? (i := 192) rfl), rfl⟩
theorem im_X10_stand : Cond.instanceMethod yX10_stand ∈ TS := List.mem_filter.mpr ⟨tb_4 _ (List.mem_of_getElem? (i := 194) rfl), rfl⟩
theorem co_X10_stand : Cond.code yX10_stand cX10_stand 3 none ∈ TS := List.mem_filter.mpr ⟨tb_4 _ (List.mem_of_getElem? (i := 195) rfl), rfl⟩
theorem ml_X10_120 : Cond.methodLink RX10 120 yX10_isLeg ∈ TS := List.mem_filter.mpr ⟨tb_4 _ (List.mem_of_getElem? (i := 196) rfl), rfl⟩
theorem im_X10_isLeg : Cond.instanceMethod yX10_isLeg ∈ TS := List.mem_filter.mpr ⟨tb_4 _ (List.mem_of_getElem? (i := 198) rfl), rfl⟩
theorem co_X10_isLeg : Cond.code yX10_isLeg cX10_isLeg 3 (some .boolean) ∈ TS := List.mem_filter.mpr ⟨tb_4 _ (List.mem_of_getElem? (i := 199) rfl), rfl⟩
theorem ml_X10_123 : Cond.methodLink RX10 123 yX10_goBy ∈ TS := List.mem_filter.mpr ⟨tb_4 _ (List.mem_of_getElem? (i := 200) rfl), rfl⟩
theorem im_X10_goBy : Cond.instanceMethod yX10_goBy ∈ TS := List.mem_filter.mpr ⟨tb_4 _ (List.mem_of_getElem? (i := 202) rfl), rfl⟩
theorem co_X10_goBy : Cond.code yX10_goBy cX10_goBy 7 none ∈ TS := List.mem_filter.mpr ⟨tb_4 _ (List.mem_of_getElem? (i := 203) rfl), rfl⟩
theorem ml_X10_133 : Cond.methodLink RX10 133 yX10_told ∈ TS := List.mem_filter.mpr ⟨tb_4 _ (List.mem_of_getElem? (i := 204) rfl), rfl⟩
theorem sm_X10_told : Cond.static yX10_told ∈ TS := List.mem_filter.mpr ⟨tb_4 _ (List.mem_of_getElem? (i := 205) rfl), rfl⟩
theorem co_X10_told : Cond.code yX10_told cX10_told 7 (some .long) ∈ TS := List.mem_filter.mpr ⟨tb_4 _ (List.mem_of_getElem? (i := 206) rfl), rfl⟩
theorem ml_X10_126 : Cond.methodLink RX10 126 yX10_common ∈ TS := List.mem_filter.mpr ⟨tb_4 _ (List.mem_of_getElem? (i := 207) rfl), rfl⟩
theorem sm_X10_common : Cond.static yX10_common ∈ TS := List.mem_filter.mpr ⟨tb_4 _ (List.mem_of_getElem? (i := 208) rfl), rfl⟩
theorem co_X10_common : Cond.code yX10_common cX10_common 10 (some .long) ∈ TS := List.mem_filter.mpr ⟨tb_4 _ (List.mem_of_getElem? (i := 209) rfl), rfl⟩
theorem kc_X10_137 : Cond.constant RX10 137 (-900003) ∈ TS := List.mem_filter.mpr ⟨tb_4 _ (List.mem_of_getElem? (i := 210) rfl), rfl⟩
theorem ml_L_40 : Cond.methodLink RL 40 yX10_there ∈ TS := List.mem_filter.mpr ⟨tb_4 _ (List.mem_of_getElem? (i := 211) rfl), rfl⟩
theorem im_X10_there : Cond.instanceMethod yX10_there ∈ TS := List.mem_filter.mpr ⟨tb_4 _ (List.mem_of_getElem? (i := 212) rfl), rfl⟩
theorem se_X10_there : Cond.selects RX10 yX10_there yX10_there ∈ TS := List.mem_filter.mpr ⟨tb_4 _ (List.mem_of_getElem? (i := 213) rfl), rfl⟩
theorem co_X10_there : Cond.code yX10_there cX10_there 3 (some .int) ∈ TS := List.mem_filter.mpr ⟨tb_4 _ (List.mem_of_getElem? (i := 214) rfl), rfl⟩
theorem ml_L_45 : Cond.methodLink RL 45 yX10_mended ∈ TS := List.mem_filter.mpr ⟨tb_4 _ (List.mem_of_getElem? (i := 215) rfl), rfl⟩
theorem im_X10_mended : Cond.instanceMethod yX10_mended ∈ TS := List.mem_filter.mpr ⟨tb_4 _ (List.mem_of_getElem? (i := 216) rfl), rfl⟩
theorem se_X10_mended : Cond.selects RX10 yX10_mended yX10_mended ∈ TS := List.mem_filter.mpr ⟨tb_4 _ (List.mem_of_getElem? (i := 217) rfl), rfl⟩
theorem co_X10_mended : Cond.code yX10_mended cX10_mended 1 (some .int) ∈ TS := List.mem_filter.mpr ⟨tb_4 _ (List.mem_of_getElem? (i := 218) rfl), rfl⟩
theorem ml_L_50 : Cond.methodLink RL 50 yX10_inside ∈ TS := List.mem_filter.mpr ⟨tb_4 _ (List.mem_of_getElem? (i := 219) rfl), rfl⟩
theorem im_X10_inside : Cond.instanceMethod yX10_inside ∈ TS := List.mem_filter.mpr ⟨tb_4 _ (List.mem_of_getElem? (i := 220) rfl), rfl⟩
theorem se_X10_inside : Cond.selects RX10 yX10_inside yX10_inside ∈ TS := List.mem_filter.mpr ⟨tb_4 _ (List.mem_of_getElem? (i := 221) rfl), rfl⟩
theorem co_X10_inside : Cond.code yX10_inside cX10_inside 8 (some .int) ∈ TS := List.mem_filter.mpr ⟨tb_4 _ (List.mem_of_getElem? (i := 222) rfl), rfl⟩
theorem ml_X10_142 : Cond.methodLink RX10 142 yX10_isSpan ∈ TS := List.mem_filter.mpr ⟨tb_4 _ (List.mem_of_getElem? (i := 223) rfl), rfl⟩
theorem sm_X10_isSpan : Cond.static yX10_isSpan ∈ TS := List.mem_filter.mpr ⟨tb_4 _ (List.mem_of_getElem? (i := 224) rfl), rfl⟩
theorem co_X10_isSpan : Cond.code yX10_isSpan cX10_isSpan 2 (some .boolean) ∈ TS := List.mem_filter.mpr ⟨tb_4 _ (List.mem_of_getElem? (i := 225) rfl), rfl⟩
theorem kl_X10_138 : Cond.constantLong RX10 138 (-2000) ∈ TS := List.mem_filter.mpr ⟨tb_4 _ (List.mem_of_getElem? (i := 226) rfl), rfl⟩
theorem kl_X10_140 : Cond.constantLong RX10 140 (2000) ∈ TS := List.mem_filter.mpr ⟨tb_4 _ (List.mem_of_getElem? (i := 227) rfl), rfl⟩
theorem ml_X10_145 : Cond.methodLink RX10 145 yX10_isIn ∈ TS := List.mem_filter.mpr ⟨tb_4 _ (List.mem_of_getElem? (i := 228) rfl), rfl⟩
theorem im_X10_isIn : Cond.instanceMethod yX10_isIn ∈ TS := List.mem_filter.mpr ⟨tb_4 _ (List.mem_of_getElem? (i := 230) rfl), rfl⟩
theorem co_X10_isIn : Cond.code yX10_isIn cX10_isIn 7 (some .boolean) ∈ TS := List.mem_filter.mpr ⟨tb_4 _ (List.mem_of_getElem? (i := 231) rfl), rfl⟩
theorem ml_L_55 : Cond.methodLink RL 55 yX10_who ∈ TS := List.mem_filter.mpr ⟨tb_4 _ (List.mem_of_getElem? (i := 232) rfl), rfl⟩
theorem im_X10_who : Cond.instanceMethod yX10_who ∈ TS := List.mem_filter.mpr ⟨tb_4 _ (List.mem_of_getElem? (i := 233) rfl), rfl⟩
theorem se_X10_who : Cond.selects RX10 yX10_who yX10_who ∈ TS := List.mem_filter.mpr ⟨tb_4 _ (List.mem_of_getElem? (i := 234) rfl), rfl⟩
theorem co_X10_who : Cond.code yX10_who cX10_who 9 (some .int) ∈ TS := List.mem_filter.mpr ⟨tb_4 _ (List.mem_of_getElem? (i := 235) rfl), rfl⟩
theorem kc_X10_149 : Cond.constant RX10 149 (-900009) ∈ TS := List.mem_filter.mpr ⟨tb_4 _ (List.mem_of_getElem? (i := 236) rfl), rfl⟩
theorem ml_L_59 : Cond.methodLink RL 59 yX10_visits ∈ TS := List.mem_filter.mpr ⟨tb_4 _ (List.mem_of_getElem? (i := 237) rfl), rfl⟩
theorem im_X10_visits : Cond.instanceMethod yX10_visits ∈ TS := List.mem_filter.mpr ⟨tb_4 _ (List.mem_of_getElem? (i := 238) rfl), rfl⟩
theorem se_X10_visits : Cond.selects RX10 yX10_visits yX10_visits ∈ TS := List.mem_filter.mpr ⟨tb_4 _ (List.mem_of_getElem? (i := 239) rfl), rfl⟩
theorem co_X10_visits : Cond.code yX10_visits cX10_visits 6 (some .int) ∈ TS := List.mem_filter.mpr ⟨tb_5 _ (List.mem_of_getElem? (i := 0) rfl), rfl⟩
theorem ml_X10_163 : Cond.methodLink RX10 163 yX10_layVisits ∈ TS := List.mem_filter.mpr ⟨tb_5 _ (List.mem_of_getElem? (i := 1) rfl), rfl⟩
theorem im_X10_layVisits : Cond.instanceMethod yX10_layVisits ∈ TS := List.mem_filter.mpr ⟨tb_5 _ (List.mem_of_getElem? (i := 3) rfl), rfl⟩
theorem co_X10_layVisits : Cond.code yX10_layVisits cX10_layVisits 7 none ∈ TS := List.mem_filter.mpr ⟨tb_5 _ (List.mem_of_getElem? (i := 4) rfl), rfl⟩
theorem ml_X10_156 : Cond.methodLink RX10 156 yX10_beginRuns ∈ TS := List.mem_filter.mpr ⟨tb_5 _ (List.mem_of_getElem? (i := 5) rfl), rfl⟩
theorem im_X10_beginRuns : Cond.instanceMethod yX10_beginRuns ∈ TS := List.mem_filter.mpr ⟨tb_5 _ (List.mem_of_getElem? (i := 7) rfl), rfl⟩
theorem co_X10_beginRuns : Cond.code yX10_beginRuns cX10_beginRuns 1 none ∈ TS := List.mem_filter.mpr ⟨tb_5 _ (List.mem_of_getElem? (i := 8) rfl), rfl⟩
theorem ml_X10_159 : Cond.methodLink RX10 159 yX10_meet ∈ TS := List.mem_filter.mpr ⟨tb_5 _ (List.mem_of_getElem? (i := 9) rfl), rfl⟩
theorem im_X10_meet : Cond.instanceMethod yX10_meet ∈ TS := List.mem_filter.mpr ⟨tb_5 _ (List.mem_of_getElem? (i := 11) rfl), rfl⟩
theorem co_X10_meet : Cond.code yX10_meet cX10_meet 3 none ∈ TS := List.mem_filter.mpr ⟨tb_5 _ (List.mem_of_getElem? (i := 12) rfl), rfl⟩
theorem ml_L_64 : Cond.methodLink RL 64 yX10_visit ∈ TS := List.mem_filter.mpr ⟨tb_5 _ (List.mem_of_getElem? (i := 13) rfl), rfl⟩
theorem im_X10_visit : Cond.instanceMethod yX10_visit ∈ TS := List.mem_filter.mpr ⟨tb_5 _ (List.mem_of_getElem? (i := 14) rfl), rfl⟩
theorem se_X10_visit : Cond.selects RX10 yX10_visit yX10_visit ∈ TS := List.mem_filter.mpr ⟨tb_5 _ (List.mem_of_getElem? (i := 15) rfl), rfl⟩
theorem co_X10_visit : Cond.code yX10_visit cX10_visit 8 (some .int) ∈ TS := List.mem_filter.mpr ⟨tb_5 _ (List.mem_of_getElem? (i := 16) rfl), rfl⟩
theorem ml_L_69 : Cond.methodLink RL 69 yX10_far ∈ TS := List.mem_filter.mpr ⟨tb_5 _ (List.mem_of_getElem? (i := 17) rfl), rfl⟩
theorem im_X10_far : Cond.instanceMethod yX10_far ∈ TS := List.mem_filter.mpr ⟨tb_5 _ (List.mem_of_getElem? (i := 18) rfl), rfl⟩
theorem se_X10_far : Cond.selects RX10 yX10_far yX10_far ∈ TS := List.mem_filter.mpr ⟨tb_5 _ (List.mem_of_getElem? (i := 19) rfl), rfl⟩
theorem co_X10_far : Cond.code yX10_far cX10_far 5 (some .long) ∈ TS := List.mem_filter.mpr ⟨tb_5 _ (List.mem_of_getElem? (i := 20) rfl), rfl⟩
theorem kl_X10_173 : Cond.constantLong RX10 173 (-900001) ∈ TS := List.mem_filter.mpr ⟨tb_5 _ (List.mem_of_getElem? (i := 21) rfl), rfl⟩
theorem kl_X10_175 : Cond.constantLong RX10 175 (-900002) ∈ TS := List.mem_filter.mpr ⟨tb_5 _ (List.mem_of_getElem? (i := 22) rfl), rfl⟩
theorem ml_X10_177 : Cond.methodLink RX10 177 yX10_layFar ∈ TS := List.mem_filter.mpr ⟨tb_5 _ (List.mem_of_getElem? (i := 23) rfl), rfl⟩
theorem im_X10_layFar : Cond.instanceMethod yX10_layFar ∈ TS := List.mem_filter.mpr ⟨tb_5 _ (List.mem_of_getElem? (i := 25) rfl), rfl⟩
theorem co_X10_layFar : Cond.code yX10_layFar cX10_layFar 14 (some .boolean) ∈ TS := List.mem_filter.mpr ⟨tb_5 _ (List.mem_of_getElem? (i := 26) rfl), rfl⟩
theorem kl_X10_181 : Cond.constantLong RX10 181 (-900003) ∈ TS := List.mem_filter.mpr ⟨tb_5 _ (List.mem_of_getElem? (i := 27) rfl), rfl⟩
theorem ml_L_73 : Cond.methodLink RL 73 yX10_nearest ∈ TS := List.mem_filter.mpr ⟨tb_5 _ (List.mem_of_getElem? (i := 28) rfl), rfl⟩
theorem im_X10_nearest : Cond.instanceMethod yX10_nearest ∈ TS := List.mem_filter.mpr ⟨tb_5 _ (List.mem_of_getElem? (i := 29) rfl), rfl⟩
theorem se_X10_nearest : Cond.selects RX10 yX10_nearest yX10_nearest ∈ TS := List.mem_filter.mpr ⟨tb_5 _ (List.mem_of_getElem? (i := 30) rfl), rfl⟩
theorem co_X10_nearest : Cond.code yX10_nearest cX10_nearest 5 (some .int) ∈ TS := List.mem_filter.mpr ⟨tb_5 _ (List.mem_of_getElem? (i := 31) rfl), rfl⟩
theorem ml_X10_183 : Cond.methodLink RX10 183 yX10_placeOf ∈ TS := List.mem_filter.mpr ⟨tb_5 _ (List.mem_of_getElem? (i := 32) rfl), rfl⟩
theorem im_X10_placeOf : Cond.instanceMethod yX10_placeOf ∈ TS := List.mem_filter.mpr ⟨tb_5 _ (List.mem_of_getElem? (i := 34) rfl), rfl⟩
theorem co_X10_placeOf : Cond.code yX10_placeOf cX10_placeOf 15 (some .int) ∈ TS := List.mem_filter.mpr ⟨tb_5 _ (List.mem_of_getElem? (i := 35) rfl), rfl⟩
theorem ml_L_77 : Cond.methodLink RL 77 yX10_meetings ∈ TS := List.mem_filter.mpr ⟨tb_5 _ (List.mem_of_getElem? (i := 36) rfl), rfl⟩
theorem im_X10_meetings : Cond.instanceMethod yX10_meetings ∈ TS := List.mem_filter.mpr ⟨tb_5 _ (List.mem_of_getElem? (i := 37) rfl), rfl⟩
theorem se_X10_meetings : Cond.selects RX10 yX10_meetings yX10_meetings ∈ TS := List.mem_filter.mpr ⟨tb_5 _ (List.mem_of_getElem? (i := 38) rfl), rfl⟩
theorem co_X10_meetings : Cond.code yX10_meetings cX10_meetings 5 (some .int) ∈ TS := List.mem_filter.mpr ⟨tb_5 _ (List.mem_of_getElem? (i := 39) rfl), rfl⟩
theorem ml_X10_189 : Cond.methodLink RX10 189 yX10_mayMeet ∈ TS := List.mem_filter.mpr ⟨tb_5 _ (List.mem_of_getElem? (i := 40) rfl), rfl⟩
theorem im_X10_mayMeet : Cond.instanceMethod yX10_mayMeet ∈ TS := List.mem_filter.mpr ⟨tb_5 _ (List.mem_of_getElem? (i := 42) rfl), rfl⟩
theorem co_X10_mayMeet : Cond.code yX10_mayMeet cX10_mayMeet 4 (some .int) ∈ TS := List.mem_filter.mpr ⟨tb_5 _ (List.mem_of_getElem? (i := 43) rfl), rfl⟩
theorem kl_X10_187 : Cond.constantLong RX10 187 (200) ∈ TS := List.mem_filter.mpr ⟨tb_5 _ (List.mem_of_getElem? (i := 44) rfl), rfl⟩
theorem ml_X10_192 : Cond.methodLink RX10 192 yX10_layMeetings ∈ TS := List.mem_filter.mpr ⟨tb_5 _ (List.mem_of_getElem? (i := 45) rfl), rfl⟩
theorem im_X10_layMeetings : Cond.instanceMethod yX10_layMeetings ∈ TS := List.mem_filter.mpr ⟨tb_5 _ (List.mem_of_getElem? (i := 47) rfl), rfl⟩
theorem co_X10_layMeetings : Cond.code yX10_layMeetings cX10_layMeetings 6 none ∈ TS := List.mem_filter.mpr ⟨tb_5 _ (List.mem_of_getElem? (i := 48) rfl), rfl⟩
theorem ml_L_82 : Cond.methodLink RL 82 yX10_longest ∈ TS := List.mem_filter.mpr ⟨tb_5 _ (List.mem_of_getElem? (i := 49) rfl), rfl⟩
theorem im_X10_longest : Cond.instanceMethod yX10_longest ∈ TS := List.mem_filter.mpr ⟨tb_5 _ (List.mem_of_getElem? (i := 50) rfl), rfl⟩
theorem se_X10_longest : Cond.selects RX10 yX10_longest yX10_longest ∈ TS := List.mem_filter.mpr ⟨tb_5 _ (List.mem_of_getElem? (i := 51) rfl), rfl⟩
theorem co_X10_longest : Cond.code yX10_longest cX10_longest 10 (some .int) ∈ TS := List.mem_filter.mpr ⟨tb_5 _ (List.mem_of_getElem? (i := 52) rfl), rfl⟩
theorem ml_L_87 : Cond.methodLink RL 87 yX10_pages ∈ TS := List.mem_filter.mpr ⟨tb_5 _ (List.mem_of_getElem? (i := 53) rfl), rfl⟩
theorem im_X10_pages : Cond.instanceMethod yX10_pages ∈ TS := List.mem_filter.mpr ⟨tb_5 _ (List.mem_of_getElem? (i := 54) rfl), rfl⟩
theorem se_X10_pages : Cond.selects RX10 yX10_pages yX10_pages ∈ TS := List.mem_filter.mpr ⟨tb_5 _ (List.mem_of_getElem? (i := 55) rfl), rfl⟩
theorem co_X10_pages : Cond.code yX10_pages cX10_pages 5 (some .int) ∈ TS := List.mem_filter.mpr ⟨tb_5 _ (List.mem_of_getElem? (i := 56) rfl), rfl⟩
theorem kl_X10_243 : Cond.constantLong RX10 243 (3) ∈ TS := List.mem_filter.mpr ⟨tb_5 _ (List.mem_of_getElem? (i := 57) rfl), rfl⟩
theorem ml_X10_245 : Cond.methodLink RX10 245 yX10_layPages ∈ TS := List.mem_filter.mpr ⟨tb_5 _ (List.mem_of_getElem? (i := 58) rfl), rfl⟩
theorem im_X10_layPages : Cond.instanceMethod yX10_layPages ∈ TS := List.mem_filter.mpr ⟨tb_5 _ (List.mem_of_getElem? (i := 60) rfl), rfl⟩
theorem co_X10_layPages : Cond.code yX10_layPages cX10_layPages 3 none ∈ TS := List.mem_filter.mpr ⟨tb_5 _ (List.mem_of_getElem? (i := 61) rfl), rfl⟩
theorem ml_X10_237 : Cond.methodLink RX10 237 yX10_layLegs ∈ TS := List.mem_filter.mpr ⟨tb_5 _ (List.mem_of_getElem? (i := 62) rfl), rfl⟩
theorem im_X10_layLegs : Cond.instanceMethod yX10_layLegs ∈ TS := List.mem_filter.mpr ⟨tb_5 _ (List.mem_of_getElem? (i := 64) rfl), rfl⟩
theorem co_X10_layLegs : Cond.code yX10_layLegs cX10_layLegs 4 none ∈ TS := List.mem_filter.mpr ⟨tb_5 _ (List.mem_of_getElem? (i := 65) rfl), rfl⟩
theorem ml_X10_198 : Cond.methodLink RX10 198 yX10_span ∈ TS := List.mem_filter.mpr ⟨tb_5 _ (List.mem_of_getElem? (i := 66) rfl), rfl⟩
theorem im_X10_span : Cond.instanceMethod yX10_span ∈ TS := List.mem_filter.mpr ⟨tb_5 _ (List.mem_of_getElem? (i := 68) rfl), rfl⟩
theorem co_X10_span : Cond.code yX10_span cX10_span 4 none ∈ TS := List.mem_filter.mpr ⟨tb_5 _ (List.mem_of_getElem? (i := 69) rfl), rfl⟩
theorem ml_X10_233 : Cond.methodLink RX10 233 yX10_newPage ∈ TS := List.mem_filter.mpr ⟨tb_5 _ (List.mem_of_getElem? (i := 70) rfl), rfl⟩
theorem im_X10_newPage : Cond.instanceMethod yX10_newPage ∈ TS := List.mem_filter.mpr ⟨tb_5 _ (List.mem_of_getElem? (i := 72) rfl), rfl⟩
theorem co_X10_newPage : Cond.code yX10_newPage cX10_newPage 2 (some .int) ∈ TS := List.mem_filter.mpr ⟨tb_5 _ (List.mem_of_getElem? (i := 73) rfl), rfl⟩
theorem ml_X10_240 : Cond.methodLink RX10 240 yX10_addLeg ∈ TS := List.mem_filter.mpr ⟨tb_5 _ (List.mem_of_getElem? (i := 74) rfl), rfl⟩
theorem im_X10_addLeg : Cond.instanceMethod yX10_addLeg ∈ TS := List.mem_filter.mpr ⟨tb_5 _ (List.mem_of_getElem? (i := 76) rfl), rfl⟩
theorem co_X10_addLeg : Cond.code yX10_addLeg cX10_addLeg 3 none ∈ TS := List.mem_filter.mpr ⟨tb_5 _ (List.mem_of_getElem? (i := 77) rfl), rfl⟩
theorem ml_X10_208 : Cond.methodLink RX10 208 yX10_join ∈ TS := List.mem_filter.mpr ⟨tb_5 _ (List.mem_of_getElem? (i := 78) rfl), rfl⟩
theorem im_X10_join : Cond.instanceMethod yX10_join ∈ TS := List.mem_filter.mpr ⟨tb_5 _ (List.mem_of_getElem? (i := 80) rfl), rfl⟩
theorem co_X10_join : Cond.code yX10_join cX10_join 6 none ∈ TS := List.mem_filter.mpr ⟨tb_5 _ (List.mem_of_getElem? (i := 81) rfl), rfl⟩
theorem ml_X10_211 : Cond.methodLink RX10 211 yX10_growth ∈ TS := List.mem_filter.mpr ⟨tb_5 _ (List.mem_of_getElem? (i := 82) rfl), rfl⟩
theorem im_X10_growth : Cond.instanceMethod yX10_growth ∈ TS := List.mem_filter.mpr ⟨tb_5 _ (List.mem_of_getElem? (i := 84) rfl), rfl⟩
theorem co_X10_growth : Cond.code yX10_growth cX10_growth 3 (some .int) ∈ TS := List.mem_filter.mpr ⟨tb_5 _ (List.mem_of_getElem? (i := 85) rfl), rfl⟩
theorem ml_X10_204 : Cond.methodLink RX10 204 yX10_sizeWith ∈ TS := List.mem_filter.mpr ⟨tb_5 _ (List.mem_of_getElem? (i := 86) rfl), rfl⟩
theorem im_X10_sizeWith : Cond.instanceMethod yX10_sizeWith ∈ TS := List.mem_filter.mpr ⟨tb_5 _ (List.mem_of_getElem? (i := 88) rfl), rfl⟩
theorem co_X10_sizeWith : Cond.code yX10_sizeWith cX10_sizeWith 9 (some .int) ∈ TS := List.mem_filter.mpr ⟨tb_5 _ (List.mem_of_getElem? (i := 89) rfl), rfl⟩
theorem ml_X10_214 : Cond.methodLink RX10 214 yX10_put ∈ TS := List.mem_filter.mpr ⟨tb_5 _ (List.mem_of_getElem? (i := 90) rfl), rfl⟩
theorem im_X10_put : Cond.instanceMethod yX10_put ∈ TS := List.mem_filter.mpr ⟨tb_5 _ (List.mem_of_getElem? (i := 92) rfl), rfl⟩
theorem co_X10_put : Cond.code yX10_put cX10_put 3 none ∈ TS := List.mem_filter.mpr ⟨tb_5 _ (List.mem_of_getElem? (i := 93) rfl), rfl⟩
theorem ml_X10_217 : Cond.methodLink RX10 217 yX10_cut ∈ TS := List.mem_filter.mpr ⟨tb_5 _ (List.mem_of_getElem? (i := 94) rfl), rfl⟩
theorem im_X10_cut : Cond.instanceMethod yX10_cut ∈ TS := List.mem_filter.mpr ⟨tb_5 _ (List.mem_of_getElem? (i := 96) rfl), rfl⟩
theorem co_X10_cut : Cond.code yX10_cut cX10_cut 8 none ∈ TS := List.mem_filter.mpr ⟨tb_5 _ (List.mem_of_getElem? (i := 97) rfl), rfl⟩
theorem kc_X10_226 : Cond.constant RX10 226 (200000000) ∈ TS := List.mem_filter.mpr ⟨tb_5 _ (List.mem_of_getElem? (i := 98) rfl), rfl⟩
theorem ml_X10_227 : Cond.methodLink RX10 227 yX10_sort ∈ TS := List.mem_filter.mpr ⟨tb_5 _ (List.mem_of_getElem? (i := 99) rfl), rfl⟩
theorem im_X10_sort : Cond.instanceMethod yX10_sort ∈ TS := List.mem_filter.mpr ⟨tb_5 _ (List.mem_of_getElem? (i := 101) rfl), rfl⟩
theorem co_X10_sort : Cond.code yX10_sort cX10_sort 6 none ∈ TS := List.mem_filter.mpr ⟨tb_5 _ (List.mem_of_getElem? (i := 102) rfl), rfl⟩
theorem ml_X10_221 : Cond.methodLink RX10 221 yX10_isBehind ∈ TS := List.mem_filter.mpr ⟨tb_5 _ (List.mem_of_getElem? (i := 103) rfl), rfl⟩
theorem im_X10_isBehind : Cond.instanceMethod yX10_isBehind ∈ TS := List.mem_filter.mpr ⟨tb_5 _ (List.mem_of_getElem? (i := 105) rfl), rfl⟩
theorem co_X10_isBehind : Cond.code yX10_isBehind cX10_isBehind 6 (some .boolean) ∈ TS := List.mem_filter.mpr ⟨tb_5 _ (List.mem_of_getElem? (i := 106) rfl), rfl⟩
theorem ml_X10_230 : Cond.methodLink RX10 230 yX10_sizeOf ∈ TS := List.mem_filter.mpr ⟨tb_5 _ (List.mem_of_getElem? (i := 107) rfl), rfl⟩
theorem im_X10_sizeOf : Cond.instanceMethod yX10_sizeOf ∈ TS := List.mem_filter.mpr ⟨tb_5 _ (List.mem_of_getElem? (i := 109) rfl), rfl⟩
theorem co_X10_sizeOf : Cond.code yX10_sizeOf cX10_sizeOf 8 (some .int) ∈ TS := List.mem_filter.mpr ⟨tb_5 _ (List.mem_of_getElem? (i := 110) rfl), rfl⟩
theorem kc_X10_224 : Cond.constant RX10 224 (100000000) ∈ TS := List.mem_filter.mpr ⟨tb_5 _ (List.mem_of_getElem? (i := 111) rfl), rfl⟩
theorem kc_X10_225 : Cond.constant RX10 225 (-100000000) ∈ TS := List.mem_filter.mpr ⟨tb_5 _ (List.mem_of_getElem? (i := 112) rfl), rfl⟩
theorem ml_L_92 : Cond.methodLink RL 92 yX10_size ∈ TS := List.mem_filter.mpr ⟨tb_5 _ (List.mem_of_getElem? (i := 113) rfl), rfl⟩
theorem im_X10_size : Cond.instanceMethod yX10_size ∈ TS := List.mem_filter.mpr ⟨tb_5 _ (List.mem_of_getElem? (i := 114) rfl), rfl⟩
theorem se_X10_size : Cond.selects RX10 yX10_size yX10_size ∈ TS := List.mem_filter.mpr ⟨tb_5 _ (List.mem_of_getElem? (i := 115) rfl), rfl⟩
theorem co_X10_size : Cond.code yX10_size cX10_size 4 (some .long) ∈ TS := List.mem_filter.mpr ⟨tb_5 _ (List.mem_of_getElem? (i := 116) rfl), rfl⟩
theorem ml_L_96 : Cond.methodLink RL 96 yX10_opens ∈ TS := List.mem_filter.mpr ⟨tb_5 _ (List.mem_of_getElem? (i := 117) rfl), rfl⟩
theorem im_X10_opens : Cond.instanceMethod yX10_opens ∈ TS := List.mem_filter.mpr ⟨tb_5 _ (List.mem_of_getElem? (i := 118) rfl), rfl⟩
theorem se_X10_opens : Cond.selects RX10 yX10_opens yX10_opens ∈ TS := List.mem_filter.mpr ⟨tb_5 _ (List.mem_of_getElem? (i := 119) rfl), rfl⟩
theorem co_X10_opens : Cond.code yX10_opens cX10_opens 12 (some .int) ∈ TS := List.mem_filter.mpr ⟨tb_5 _ (List.mem_of_getElem? (i := 120) rfl), rfl⟩
theorem ml_X10_252 : Cond.methodLink RX10 252 yX10_touchesPage ∈ TS := List.mem_filter.mpr ⟨tb_5 _ (List.mem_of_getElem? (i := 121) rfl), rfl⟩
theorem im_X10_touchesPage : Cond.instanceMethod yX10_touchesPage ∈ TS := List.mem_filter.mpr ⟨tb_5 _ (List.mem_of_getElem? (i := 123) rfl), rfl⟩
theorem co_X10_touchesPage : Cond.code yX10_touchesPage cX10_touchesPage 4 (some .boolean) ∈ TS := List.mem_filter.mpr ⟨tb_5 _ (List.mem_of_getElem? (i := 124) rfl), rfl⟩
theorem ml_X10_248 : Cond.methodLink RX10 248 yX10_touches ∈ TS := List.mem_filter.mpr ⟨tb_5 _ (List.mem_of_getElem? (i := 125) rfl), rfl⟩
theorem im_X10_touches : Cond.instanceMethod yX10_touches ∈ TS := List.mem_filter.mpr ⟨tb_5 _ (List.mem_of_getElem? (i := 127) rfl), rfl⟩
theorem co_X10_touches : Cond.code yX10_touches cX10_touches 5 (some .boolean) ∈ TS := List.mem_filter.mpr ⟨tb_5 _ (List.mem_of_getElem? (i := 128) rfl), rfl⟩
theorem ml_X10_255 : Cond.methodLink RX10 255 yX10_touchesLeg ∈ TS := List.mem_filter.mpr ⟨tb_5 _ (List.mem_of_getElem? (i := 129) rfl), rfl⟩
theorem im_X10_touchesLeg : Cond.instanceMethod yX10_touchesLeg ∈ TS := List.mem_filter.mpr ⟨tb_5 _ (List.mem_of_getElem? (i := 131) rfl), rfl⟩
theorem co_X10_touchesLeg : Cond.code yX10_touchesLeg cX10_touchesLeg 4 (some .boolean) ∈ TS := List.mem_filter.mpr ⟨tb_5 _ (List.mem_of_getElem? (i := 132) rfl), rfl⟩
theorem ml_L_100 : Cond.methodLink RL 100 yX10_thin ∈ TS := List.mem_filter.mpr ⟨tb_5 _ (List.mem_of_getElem? (i := 133) rfl), rfl⟩
theorem im_X10_thin : Cond.instanceMethod yX10_thin ∈ TS := List.mem_filter.mpr ⟨tb_5 _ (List.mem_of_getElem? (i := 134) rfl), rfl⟩
theorem se_X10_thin : Cond.selects RX10 yX10_thin yX10_thin ∈ TS := List.mem_filter.mpr ⟨tb_5 _ (List.mem_of_getElem? (i := 135) rfl), rfl⟩
theorem co_X10_thin : Cond.code yX10_thin cX10_thin 4 (some .int) ∈ TS := List.mem_filter.mpr ⟨tb_5 _ (List.mem_of_getElem? (i := 136) rfl), rfl⟩
theorem ml_X10_261 : Cond.methodLink RX10 261 yX10_mayThin ∈ TS := List.mem_filter.mpr ⟨tb_5 _ (List.mem_of_getElem? (i := 137) rfl), rfl⟩
theorem im_X10_mayThin : Cond.instanceMethod yX10_mayThin ∈ TS := List.mem_filter.mpr ⟨tb_5 _ (List.mem_of_getElem? (i := 139) rfl), rfl⟩
theorem co_X10_mayThin : Cond.code yX10_mayThin cX10_mayThin 3 (some .int) ∈ TS := List.mem_filter.mpr ⟨tb_5 _ (List.mem_of_getElem? (i := 140) rfl), rfl⟩
theorem ml_X10_264 : Cond.methodLink RX10 264 yX10_layThin ∈ TS := List.mem_filter.mpr ⟨tb_5 _ (List.mem_of_getElem? (i := 141) rfl), rfl⟩
theorem im_X10_layThin : Cond.instanceMethod yX10_layThin ∈ TS := List.mem_filter.mpr ⟨tb_5 _ (List.mem_of_getElem? (i := 143) rfl), rfl⟩
theorem co_X10_layThin : Cond.code yX10_layThin cX10_layThin 6 (some .int) ∈ TS := List.mem_filter.mpr ⟨tb_5 _ (List.mem_of_getElem? (i := 144) rfl), rfl⟩
theorem ml_X10_258 : Cond.methodLink RX10 258 yX10_mayFollow ∈ TS := List.mem_filter.mpr ⟨tb_5 _ (List.mem_of_getElem? (i := 145) rfl), rfl⟩
theorem im_X10_mayFollow : Cond.instanceMethod yX10_mayFollow ∈ TS := List.mem_filter.mpr ⟨tb_5 _ (List.mem_of_getElem? (i := 147) rfl), rfl⟩
theorem co_X10_mayFollow : Cond.code yX10_mayFollow cX10_mayFollow 13 (some .boolean) ∈ TS := List.mem_filter.mpr ⟨tb_5 _ (List.mem_of_getElem? (i := 148) rfl), rfl⟩
theorem ml_L_104 : Cond.methodLink RL 104 yX10_kept ∈ TS := List.mem_filter.mpr ⟨tb_5 _ (List.mem_of_getElem? (i := 149) rfl), rfl⟩
theorem im_X10_kept : Cond.instanceMethod yX10_kept ∈ TS := List.mem_filter.mpr ⟨tb_5 _ (List.mem_of_getElem? (i := 150) rfl), rfl⟩
theorem se_X10_kept : Cond.selects RX10 yX10_kept yX10_kept ∈ TS := List.mem_filter.mpr ⟨tb_5 _ (List.mem_of_getElem? (i := 151) rfl), rfl⟩
theorem co_X10_kept : Cond.code yX10_kept cX10_kept 6 (some .int) ∈ TS := List.mem_filter.mpr ⟨tb_5 _ (List.mem_of_getElem? (i := 152) rfl), rfl⟩
theorem ml_L_108 : Cond.methodLink RL 108 yX10_thinned ∈ TS := List.mem_filter.mpr ⟨tb_5 _ (List.mem_of_getElem? (i := 153) rfl), rfl⟩
theorem im_X10_thinned : Cond.instanceMethod yX10_thinned ∈ TS := List.mem_filter.mpr ⟨tb_5 _ (List.mem_of_getElem? (i := 154) rfl), rfl⟩
theorem se_X10_thinned : Cond.selects RX10 yX10_thinned yX10_thinned ∈ TS := List.mem_filter.mpr ⟨tb_5 _ (List.mem_of_getElem? (i := 155) rfl), rfl⟩
theorem co_X10_thinned : Cond.code yX10_thinned cX10_thinned 7 (some .int) ∈ TS := List.mem_filter.mpr ⟨tb_5 _ (List.mem_of_getElem? (i := 156) rfl), rfl⟩
theorem ml_L_112 : Cond.methodLink RL 112 yX10_pass ∈ TS := List.mem_filter.mpr ⟨tb_5 _ (List.mem_of_getElem? (i := 157) rfl), rfl⟩
theorem im_X10_pass : Cond.instanceMethod yX10_pass ∈ TS := List.mem_filter.mpr ⟨tb_5 _ (List.mem_of_getElem? (i := 158) rfl), rfl⟩
theorem se_X10_pass : Cond.selects RX10 yX10_pass yX10_pass ∈ TS := List.mem_filter.mpr ⟨tb_5 _ (List.mem_of_getElem? (i := 159) rfl), rfl⟩
theorem co_X10_pass : Cond.code yX10_pass cX10_pass 2 (some .int) ∈ TS := List.mem_filter.mpr ⟨tb_5 _ (List.mem_of_getElem? (i := 160) rfl), rfl⟩
theorem kl_X10_267 : Cond.constantLong RX10 267 (100) ∈ TS := List.mem_filter.mpr ⟨tb_5 _ (List.mem_of_getElem? (i := 161) rfl), rfl⟩
theorem ml_L_116 : Cond.methodLink RL 116 yX10_stand_ ∈ TS := List.mem_filter.mpr ⟨tb_5 _ (List.mem_of_getElem? (i := 162) rfl), rfl⟩
theorem im_X10_stand_ : Cond.instanceMethod yX10_stand_ ∈ TS := List.mem_filter.mpr ⟨tb_5 _ (List.mem_of_getElem? (i := 163) rfl), rfl⟩
theorem se_X10_stand_ : Cond.selects RX10 yX10_stand_ yX10_stand_ ∈ TS := List.mem_filter.mpr ⟨tb_5 _ (List.mem_of_getElem? (i := 164) rfl), rfl⟩
theorem co_X10_stand_ : Cond.code yX10_stand_ cX10_stand_ 5 (some .int) ∈ TS := List.mem_filter.mpr ⟨tb_5 _ (List.mem_of_getElem? (i := 165) rfl), rfl⟩
theorem ml_L_120 : Cond.methodLink RL 120 yX10_changes ∈ TS := List.mem_filter.mpr ⟨tb_5 _ (List.mem_of_getElem? (i := 166) rfl), rfl⟩
theorem im_X10_changes : Cond.instanceMethod yX10_changes ∈ TS := List.mem_filter.mpr ⟨tb_5 _ (List.mem_of_getElem? (i := 167) rfl), rfl⟩
theorem se_X10_changes : Cond.selects RX10 yX10_changes yX10_changes ∈ TS := List.mem_filter.mpr ⟨tb_5 _ (List.mem_of_getElem? (i := 168) rfl), rfl⟩
theorem co_X10_changes : Cond.code yX10_changes cX10_changes 6 (some .int) ∈ TS := List.mem_filter.mpr ⟨tb_5 _ (List.mem_of_getElem? (i := 169) rfl), rfl⟩
theorem ml_X10_275 : Cond.methodLink RX10 275 yX10_mayChange ∈ TS := List.mem_filter.mpr ⟨tb_5 _ (List.mem_of_getElem? (i := 170) rfl), rfl⟩
theorem im_X10_mayChange : Cond.instanceMethod yX10_mayChange ∈ TS := List.mem_filter.mpr ⟨tb_5 _ (List.mem_of_getElem? (i := 172) rfl), rfl⟩
theorem co_X10_mayChange : Cond.code yX10_mayChange cX10_mayChange 3 (some .int) ∈ TS := List.mem_filter.mpr ⟨tb_5 _ (List.mem_of_getElem? (i := 173) rfl), rfl⟩
theorem ml_X10_278 : Cond.methodLink RX10 278 yX10_isInStand ∈ TS := List.mem_filter.mpr ⟨tb_5 _ (List.mem_of_getElem? (i := 174) rfl), rfl⟩
theorem im_X10_isInStand : Cond.instanceMethod yX10_isInStand ∈ TS := List.mem_filter.mpr ⟨tb_5 _ (List.mem_of_getElem? (i := 176) rfl), rfl⟩
theorem co_X10_isInStand : Cond.code yX10_isInStand cX10_isInStand 4 (some .boolean) ∈ TS := List.mem_filter.mpr ⟨tb_5 _ (List.mem_of_getElem? (i := 177) rfl), rfl⟩
theorem ml_L_124 : Cond.methodLink RL 124 yX10_change ∈ TS := List.mem_filter.mpr ⟨tb_5 _ (List.mem_of_getElem? (i := 178) rfl), rfl⟩
theorem im_X10_change : Cond.instanceMethod yX10_change ∈ TS := List.mem_filter.mpr ⟨tb_5 _ (List.mem_of_getElem? (i := 179) rfl), rfl⟩
theorem se_X10_change : Cond.selects RX10 yX10_change yX10_change ∈ TS := List.mem_filter.mpr ⟨tb_5 _ (List.mem_of_getElem? (i := 180) rfl), rfl⟩
theorem co_X10_change : Cond.code yX10_change cX10_change 8 (some .int) ∈ TS := List.mem_filter.mpr ⟨tb_5 _ (List.mem_of_getElem? (i := 181) rfl), rfl⟩
theorem ml_L_128 : Cond.methodLink RL 128 yX10_still ∈ TS := List.mem_filter.mpr ⟨tb_5 _ (List.mem_of_getElem? (i := 182) rfl), rfl⟩
theorem im_X10_still : Cond.instanceMethod yX10_still ∈ TS := List.mem_filter.mpr ⟨tb_5 _ (List.mem_of_getElem? (i := 183) rfl), rfl⟩
theorem se_X10_still : Cond.selects RX10 yX10_still yX10_still ∈ TS := List.mem_filter.mpr ⟨tb_5 _ (List.mem_of_getElem? (i := 184) rfl), rfl⟩
theorem co_X10_still : Cond.code yX10_still cX10_still 5 (some .int) ∈ TS := List.mem_filter.mpr ⟨tb_5 _ (List.mem_of_getElem? (i := 185) rfl), rfl⟩
theorem ml_L_132 : Cond.methodLink RL 132 yX10_load ∈ TS := List.mem_filter.mpr ⟨tb_5 _ (List.mem_of_getElem? (i := 186) rfl), rfl⟩
theorem im_X10_load : Cond.instanceMethod yX10_load ∈ TS := List.mem_filter.mpr ⟨tb_5 _ (List.mem_of_getElem? (i := 187) rfl), rfl⟩
theorem se_X10_load : Cond.selects RX10 yX10_load yX10_load ∈ TS := List.mem_filter.mpr ⟨tb_5 _ (List.mem_of_getElem? (i := 188) rfl), rfl⟩
theorem co_X10_load : Cond.code yX10_load cX10_load 2 (some .int) ∈ TS := List.mem_filter.mpr ⟨tb_5 _ (List.mem_of_getElem? (i := 189) rfl), rfl⟩
theorem ml_X10_281 : Cond.methodLink RX10 281 yX10_loadOf ∈ TS := List.mem_filter.mpr ⟨tb_5 _ (List.mem_of_getElem? (i := 190) rfl), rfl⟩
theorem im_X10_loadOf : Cond.instanceMethod yX10_loadOf ∈ TS := List.mem_filter.mpr ⟨tb_5 _ (List.mem_of_getElem? (i := 192) rfl), rfl⟩
theorem co_X10_loadOf : Cond.code yX10_loadOf cX10_loadOf 5 (some .int) ∈ TS := List.mem_filter.mpr ⟨tb_5 _ (List.mem_of_getElem? (i := 193) rfl), rfl⟩
theorem ml_L_136 : Cond.methodLink RL 136 yX10_share ∈ TS := List.mem_filter.mpr ⟨tb_5 _ (List.mem_of_getElem? (i := 194) rfl), rfl⟩
theorem im_X10_share : Cond.instanceMethod yX10_share ∈ TS := List.mem_filter.mpr ⟨tb_5 _ (List.mem_of_getElem? (i := 195) rfl), rfl⟩
theorem se_X10_share : Cond.selects RX10 yX10_share yX10_share ∈ TS := List.mem_filter.mpr ⟨tb_5 _ (List.mem_of_getElem? (i := 196) rfl), rfl⟩
theorem co_X10_share : Cond.code yX10_share cX10_share 2 (some .int) ∈ TS := List.mem_filter.mpr ⟨tb_5 _ (List.mem_of_getElem? (i := 197) rfl), rfl⟩
theorem kl_X10_287 : Cond.constantLong RX10 287 (5) ∈ TS := List.mem_filter.mpr ⟨tb_5 _ (List.mem_of_getElem? (i := 198) rfl), rfl⟩
theorem ml_X10_289 : Cond.methodLink RX10 289 yX10_bestLoad ∈ TS := List.mem_filter.mpr ⟨tb_5 _ (List.mem_of_getElem? (i := 199) rfl), rfl⟩
theorem im_X10_bestLoad : Cond.instanceMethod yX10_bestLoad ∈ TS := List.mem_filter.mpr ⟨tb_5 _ (List.mem_of_getElem? (i := 201) rfl), rfl⟩
theorem co_X10_bestLoad : Cond.code yX10_bestLoad cX10_bestLoad 3 (some .int) ∈ TS := List.mem_filter.mpr ⟨tb_5 _ (List.mem_of_getElem? (i := 202) rfl), rfl⟩
theorem ml_X10_284 : Cond.methodLink RX10 284 yX10_machinesFor ∈ TS := List.mem_filter.mpr ⟨tb_5 _ (List.mem_of_getElem? (i := 203) rfl), rfl⟩
theorem im_X10_machinesFor : Cond.instanceMethod yX10_machinesFor ∈ TS := List.mem_filter.mpr ⟨tb_5 _ (List.mem_of_getElem? (i := 205) rfl), rfl⟩
theorem co_X10_machinesFor : Cond.code yX10_machinesFor cX10_machinesFor 7 (some .int) ∈ TS := List.mem_filter.mpr ⟨tb_5 _ (List.mem_of_getElem? (i := 206) rfl), rfl⟩
theorem ml_L_140 : Cond.methodLink RL 140 yX10_gets ∈ TS := List.mem_filter.mpr ⟨tb_5 _ (List.mem_of_getElem? (i := 207) rfl), rfl⟩
theorem im_X10_gets : Cond.instanceMethod yX10_gets ∈ TS := List.mem_filter.mpr ⟨tb_5 _ (List.mem_of_getElem? (i := 208) rfl), rfl⟩
theorem se_X10_gets : Cond.selects RX10 yX10_gets yX10_gets ∈ TS := List.mem_filter.mpr ⟨tb_5 _ (List.mem_of_getElem? (i := 209) rfl), rfl⟩
theorem co_X10_gets : Cond.code yX10_gets cX10_gets 7 (some .int) ∈ TS := List.mem_filter.mpr ⟨tb_5 _ (List.mem_of_getElem? (i := 210) rfl), rfl⟩
theorem ml_L_145 : Cond.methodLink RL 145 yX10_blur ∈ TS := List.mem_filter.mpr ⟨tb_5 _ (List.mem_of_getElem? (i := 211) rfl), rfl⟩
theorem im_X10_blur : Cond.instanceMethod yX10_blur ∈ TS := List.mem_filter.mpr ⟨tb_5 _ (List.mem_of_getElem? (i := 212) rfl), rfl⟩
theorem se_X10_blur : Cond.selects RX10 yX10_blur yX10_blur ∈ TS := List.mem_filter.mpr ⟨tb_5 _ (List.mem_of_getElem? (i := 213) rfl), rfl⟩
theorem co_X10_blur : Cond.code yX10_blur cX10_blur 6 (some .int) ∈ TS := List.mem_filter.mpr ⟨tb_5 _ (List.mem_of_getElem? (i := 214) rfl), rfl⟩
theorem ml_X10_294 : Cond.methodLink RX10 294 yX10_isBlur ∈ TS := List.mem_filter.mpr ⟨tb_5 _ (List.mem_of_getElem? (i := 215) rfl), rfl⟩
theorem sm_X10_isBlur : Cond.static yX10_isBlur ∈ TS := List.mem_filter.mpr ⟨tb_5 _ (List.mem_of_getElem? (i := 216) rfl), rfl⟩
theorem co_X10_isBlur : Cond.code yX10_isBlur cX10_isBlur 2 (some .boolean) ∈ TS := List.mem_filter.mpr ⟨tb_5 _ (List.mem_of_getElem? (i := 217) rfl), rfl⟩
theorem kl_X10_292 : Cond.constantLong RX10 292 (20) ∈ TS := List.mem_filter.mpr ⟨tb_5 _ (List.mem_of_getElem? (i := 218) rfl), rfl⟩
theorem ml_L_149 : Cond.methodLink RL 149 yX10_together ∈ TS := List.mem_filter.mpr ⟨tb_5 _ (List.mem_of_getElem? (i := 219) rfl), rfl⟩
theorem im_X10_together : Cond.instanceMethod yX10_together ∈ TS := List.mem_filter.mpr ⟨tb_5 _ (List.mem_of_getElem? (i := 220) rfl), rfl⟩
theorem se_X10_together : Cond.selects RX10 yX10_together yX10_together ∈ TS := List.mem_filter.mpr ⟨tb_5 _ (List.mem_of_getElem? (i := 221) rfl), rfl⟩
theorem co_X10_together : Cond.code yX10_together cX10_together 7 (some .int) ∈ TS := List.mem_filter.mpr ⟨tb_5 _ (List.mem_of_getElem? (i := 222) rfl), rfl⟩
theorem ml_X10_297 : Cond.methodLink RX10 297 yX10_agreeing ∈ TS := List.mem_filter.mpr ⟨tb_5 _ (List.mem_of_getElem? (i := 223) rfl), rfl⟩
theorem sm_X10_agreeing : Cond.static yX10_agreeing ∈ TS := List.mem_filter.mpr ⟨tb_5 _ (List.mem_of_getElem? (i := 224) rfl), rfl⟩
theorem co_X10_agreeing : Cond.code yX10_agreeing cX10_agreeing 7 (some .int) ∈ TS := List.mem_filter.mpr ⟨tb_5 _ (List.mem_of_getElem? (i := 225) rfl), rfl⟩
theorem ml_L_153 : Cond.methodLink RL 153 yX10_count ∈ TS := List.mem_filter.mpr ⟨tb_5 _ (List.mem_of_getElem? (i := 226) rfl), rfl⟩
theorem im_X10_count : Cond.instanceMethod yX10_count ∈ TS := List.mem_filter.mpr ⟨tb_5 _ (List.mem_of_getElem? (i := 227) rfl), rfl⟩
theorem se_X10_count : Cond.selects RX10 yX10_count yX10_count ∈ TS := List.mem_filter.mpr ⟨tb_5 _ (List.mem_of_getElem? (i := 228) rfl), rfl⟩
theorem co_X10_count : Cond.code yX10_count cX10_count 6 (some .int) ∈ TS := List.mem_filter.mpr ⟨tb_5 _ (List.mem_of_getElem? (i := 229) rfl), rfl⟩
theorem sp_1 : ∀ q ∈ lw_privs_1, Cond.selects q.1.cls q.1 q.1 ∈ lw_tbl := fun q h => List.mem_append_left _ (List.mem_map_of_mem (f := fun q : MethodName × Nat => Cond.selects q.1.cls q.1 q.1) (show q ∈ lw_privs_1 ++ (lw_privs_2 ++ (lw_privs_3 ++ (lw_privs_4 ++ (lw_privs_5)))) from List.mem_append_left _ h))
theorem sp_2 : ∀ q ∈ lw_privs_2, Cond.selects q.1.cls q.1 q.1 ∈ lw_tbl := fun q h => List.mem_append_left _ (List.mem_map_of_mem (f := fun q : MethodName × Nat => Cond.selects q.1.cls q.1 q.1) (show q ∈ lw_privs_1 ++ (lw_privs_2 ++ (lw_privs_3 ++ (lw_privs_4 ++ (lw_privs_5)))) from List.mem_append_right _ (List.mem_append_left _ h)))
theorem sp_3 : ∀ q ∈ lw_privs_3, Cond.selects q.1.cls q.1 q.1 ∈ lw_tbl := fun q h => List.mem_append_left _ (List.mem_map_of_mem (f := fun q : MethodName × Nat => Cond.selects q.1.cls q.1 q.1) (show q ∈ lw_privs_1 ++ (lw_privs_2 ++ (lw_privs_3 ++ (lw_privs_4 ++ (lw_privs_5)))) from List.mem_append_right _ (List.mem_append_right _ (List.mem_append_left _ h))))
theorem sp_4 : ∀ q ∈ lw_privs_4, Cond.selects q.1.cls q.1 q.1 ∈ lw_tbl := fun q h => List.mem_append_left _ (List.mem_map_of_mem (f := fun q : MethodName × Nat => Cond.selects q.1.cls q.1 q.1) (show q ∈ lw_privs_1 ++ (lw_privs_2 ++ (lw_privs_3 ++ (lw_privs_4 ++ (lw_privs_5)))) from List.mem_append_right _ (List.mem_append_right _ (List.mem_append_right _ (List.mem_append_left _ h)))))
theorem sp_5 : ∀ q ∈ lw_privs_5, Cond.selects q.1.cls q.1 q.1 ∈ lw_tbl := fun q h => List.mem_append_left _ (List.mem_map_of_mem (f := fun q : MethodName × Nat => Cond.selects q.1.cls q.1 q.1) (show q ∈ lw_privs_1 ++ (lw_privs_2 ++ (lw_privs_3 ++ (lw_privs_4 ++ (lw_privs_5)))) from List.mem_append_right _ (List.mem_append_right _ (List.mem_append_right _ (List.mem_append_right _ (h))))))
theorem se_X8_copyRow : Cond.selects RX8 yX8_copyRow yX8_copyRow ∈ TS := List.mem_filter.mpr ⟨sp_1 (yX8_copyRow, 5) (List.mem_of_getElem? (i := 0) rfl), rfl⟩
theorem se_X9_isRow : Cond.selects RX9 yX9_isRow yX9_isRow ∈ TS := List.mem_filter.mpr ⟨sp_1 (yX9_isRow, 14) (List.mem_of_getElem? (i := 1) rfl), rfl⟩
theorem se_X8_locateBehind : Cond.selects RX8 yX8_locateBehind yX8_locateBehind ∈ TS := List.mem_filter.mpr ⟨sp_1 (yX8_locateBehind, 5) (List.mem_of_getElem? (i := 2) rfl), rfl⟩
theorem se_X8_followLeg : Cond.selects RX8 yX8_followLeg yX8_followLeg ∈ TS := List.mem_filter.mpr ⟨sp_1 (yX8_followLeg, 5) (List.mem_of_getElem? (i := 3) rfl), rfl⟩
theorem se_X8_standAt : Cond.selects RX8 yX8_standAt yX8_standAt ∈ TS := List.mem_filter.mpr ⟨sp_1 (yX8_standAt, 5) (List.mem_of_getElem? (i := 4) rfl), rfl⟩
theorem se_X9_isIn : Cond.selects RX9 yX9_isIn yX9_isIn ∈ TS := List.mem_filter.mpr ⟨sp_1 (yX9_isIn, 14) (List.mem_of_getElem? (i := 5) rfl), rfl⟩
theorem se_X9_gatherVisits : Cond.selects RX9 yX9_gatherVisits yX9_gatherVisits ∈ TS := List.mem_filter.mpr ⟨sp_1 (yX9_gatherVisits, 14) (List.mem_of_getElem? (i := 6) rfl), rfl⟩
theorem se_X9_locateBoth : Cond.selects RX9 yX9_locateBoth yX9_locateBoth ∈ TS := List.mem_filter.mpr ⟨sp_1 (yX9_locateBoth, 14) (List.mem_of_getElem? (i := 7) rfl), rfl⟩
theorem se_X9_gatherMeetings : Cond.selects RX9 yX9_gatherMeetings yX9_gatherMeetings ∈ TS := List.mem_filter.mpr ⟨sp_1 (yX9_gatherMeetings, 14) (List.mem_of_getElem? (i := 8) rfl), rfl⟩
theorem se_X9_isMeeting : Cond.selects RX9 yX9_isMeeting yX9_isMeeting ∈ TS := List.mem_filter.mpr ⟨sp_1 (yX9_isMeeting, 14) (List.mem_of_getElem? (i := 9) rfl), rfl⟩
theorem se_X9_refreshTree : Cond.selects RX9 yX9_refreshTree yX9_refreshTree ∈ TS := List.mem_filter.mpr ⟨sp_1 (yX9_refreshTree, 14) (List.mem_of_getElem? (i := 10) rfl), rfl⟩
theorem se_X2_addLeaf : Cond.selects RX2 yX2_addLeaf yX2_addLeaf ∈ TS := List.mem_filter.mpr ⟨sp_1 (yX2_addLeaf, 15) (List.mem_of_getElem? (i := 11) rfl), rfl⟩
theorem se_X2_setLegAxis : Cond.selects RX2 yX2_setLegAxis yX2_setLegAxis ∈ TS := List.mem_filter.mpr ⟨sp_1 (yX2_setLegAxis, 15) (List.mem_of_getElem? (i := 12) rfl), rfl⟩
theorem se_X2_partFor : Cond.selects RX2 yX2_partFor yX2_partFor ∈ TS := List.mem_filter.mpr ⟨sp_1 (yX2_partFor, 15) (List.mem_of_getElem? (i := 13) rfl), rfl⟩
theorem se_X2_hold : Cond.selects RX2 yX2_hold yX2_hold ∈ TS := List.mem_filter.mpr ⟨sp_1 (yX2_hold, 15) (List.mem_of_getElem? (i := 14) rfl), rfl⟩
theorem se_X2_chooseCut : Cond.selects RX2 yX2_chooseCut yX2_chooseCut ∈ TS := List.mem_filter.mpr ⟨sp_1 (yX2_chooseCut, 15) (List.mem_of_getElem? (i := 15) rfl), rfl⟩
theorem se_X2_sortAlong : Cond.selects RX2 yX2_sortAlong yX2_sortAlong ∈ TS := List.mem_filter.mpr ⟨sp_2 (yX2_sortAlong, 15) (List.mem_of_getElem? (i := 0) rfl), rfl⟩
theorem se_X2_isAhead : Cond.selects RX2 yX2_isAhead yX2_isAhead ∈ TS := List.mem_filter.mpr ⟨sp_2 (yX2_isAhead, 15) (List.mem_of_getElem? (i := 1) rfl), rfl⟩
theorem se_X2_sizeTogether : Cond.selects RX2 yX2_sizeTogether yX2_sizeTogether ∈ TS := List.mem_filter.mpr ⟨sp_2 (yX2_sizeTogether, 15) (List.mem_of_getElem? (i := 2) rfl), rfl⟩
theorem se_X2_touchedIn : Cond.selects RX2 yX2_touchedIn yX2_touchedIn ∈ TS := List.mem_filter.mpr ⟨sp_2 (yX2_touchedIn, 15) (List.mem_of_getElem? (i := 3) rfl), rfl⟩
theorem se_X7_countBackwards : Cond.selects RX7 yX7_countBackwards yX7_countBackwards ∈ TS := List.mem_filter.mpr ⟨sp_2 (yX7_countBackwards, 3) (List.mem_of_getElem? (i := 4) rfl), rfl⟩
theorem se_X7_keep : Cond.selects RX7 yX7_keep yX7_keep ∈ TS := List.mem_filter.mpr ⟨sp_2 (yX7_keep, 3) (List.mem_of_getElem? (i := 5) rfl), rfl⟩
theorem se_X9_refuseChange : Cond.selects RX9 yX9_refuseChange yX9_refuseChange ∈ TS := List.mem_filter.mpr ⟨sp_2 (yX9_refuseChange, 14) (List.mem_of_getElem? (i := 6) rfl), rfl⟩
theorem se_X9_isStand : Cond.selects RX9 yX9_isStand yX9_isStand ∈ TS := List.mem_filter.mpr ⟨sp_2 (yX9_isStand, 14) (List.mem_of_getElem? (i := 7) rfl), rfl⟩
theorem se_X9_isChange : Cond.selects RX9 yX9_isChange yX9_isChange ∈ TS := List.mem_filter.mpr ⟨sp_2 (yX9_isChange, 14) (List.mem_of_getElem? (i := 8) rfl), rfl⟩
theorem se_X9_countColumns : Cond.selects RX9 yX9_countColumns yX9_countColumns ∈ TS := List.mem_filter.mpr ⟨sp_2 (yX9_countColumns, 14) (List.mem_of_getElem? (i := 9) rfl), rfl⟩
theorem se_X1_fits : Cond.selects RX1 yX1_fits yX1_fits ∈ TS := List.mem_filter.mpr ⟨sp_2 (yX1_fits, 1) (List.mem_of_getElem? (i := 10) rfl), rfl⟩
theorem se_X9_allRows : Cond.selects RX9 yX9_allRows yX9_allRows ∈ TS := List.mem_filter.mpr ⟨sp_2 (yX9_allRows, 14) (List.mem_of_getElem? (i := 11) rfl), rfl⟩
theorem se_X9_thingsWithRows : Cond.selects RX9 yX9_thingsWithRows yX9_thingsWithRows ∈ TS := List.mem_filter.mpr ⟨sp_2 (yX9_thingsWithRows, 14) (List.mem_of_getElem? (i := 12) rfl), rfl⟩
theorem se_X9_thingsThere : Cond.selects RX9 yX9_thingsThere yX9_thingsThere ∈ TS := List.mem_filter.mpr ⟨sp_2 (yX9_thingsThere, 14) (List.mem_of_getElem? (i := 13) rfl), rfl⟩
theorem se_X10_move : Cond.selects RX10 yX10_move yX10_move ∈ TS := List.mem_filter.mpr ⟨sp_2 (yX10_move, 32) (List.mem_of_getElem? (i := 14) rfl), rfl⟩
theorem se_X10_isRow : Cond.selects RX10 yX10_isRow yX10_isRow ∈ TS := List.mem_filter.mpr ⟨sp_2 (yX10_isRow, 32) (List.mem_of_getElem? (i := 15) rfl), rfl⟩
theorem se_X10_drop : Cond.selects RX10 yX10_drop yX10_drop ∈ TS := List.mem_filter.mpr ⟨sp_3 (yX10_drop, 32) (List.mem_of_getElem? (i := 0) rfl), rfl⟩
theorem se_X10_find : Cond.selects RX10 yX10_find yX10_find ∈ TS := List.mem_filter.mpr ⟨sp_3 (yX10_find, 32) (List.mem_of_getElem? (i := 1) rfl), rfl⟩
theorem se_X10_stand : Cond.selects RX10 yX10_stand yX10_stand ∈ TS := List.mem_filter.mpr ⟨sp_3 (yX10_stand, 32) (List.mem_of_getElem? (i := 2) rfl), rfl⟩
theorem se_X10_isLeg : Cond.selects RX10 yX10_isLeg yX10_isLeg ∈ TS := List.mem_filter.mpr ⟨sp_3 (yX10_isLeg, 32) (List.mem_of_getElem? (i := 3) rfl), rfl⟩
theorem se_X10_goBy : Cond.selects RX10 yX10_goBy yX10_goBy ∈ TS := List.mem_filter.mpr ⟨sp_3 (yX10_goBy, 32) (List.mem_of_getElem? (i := 4) rfl), rfl⟩
theorem se_X10_isIn : Cond.selects RX10 yX10_isIn yX10_isIn ∈ TS := List.mem_filter.mpr ⟨sp_3 (yX10_isIn, 32) (List.mem_of_getElem? (i := 5) rfl), rfl⟩
theorem se_X10_layVisits : Cond.selects RX10 yX10_layVisits yX10_layVisits ∈ TS := List.mem_filter.mpr ⟨sp_3 (yX10_layVisits, 32) (List.mem_of_getElem? (i := 6) rfl), rfl⟩
theorem se_X10_beginRuns : Cond.selects RX10 yX10_beginRuns yX10_beginRuns ∈ TS := List.mem_filter.mpr ⟨sp_3 (yX10_beginRuns, 32) (List.mem_of_getElem? (i := 7) rfl), rfl⟩
theorem se_X10_meet : Cond.selects RX10 yX10_meet yX10_meet ∈ TS := List.mem_filter.mpr ⟨sp_3 (yX10_meet, 32) (List.mem_of_getElem? (i := 8) rfl), rfl⟩
theorem se_X10_layFar : Cond.selects RX10 yX10_layFar yX10_layFar ∈ TS := List.mem_filter.mpr ⟨sp_3 (yX10_layFar, 32) (List.mem_of_getElem? (i := 9) rfl), rfl⟩
theorem se_X10_placeOf : Cond.selects RX10 yX10_placeOf yX10_placeOf ∈ TS := List.mem_filter.mpr ⟨sp_3 (yX10_placeOf, 32) (List.mem_of_getElem? (i := 10) rfl), rfl⟩
theorem se_X10_mayMeet : Cond.selects RX10 yX10_mayMeet yX10_mayMeet ∈ TS := List.mem_filter.mpr ⟨sp_3 (yX10_mayMeet, 32) (List.mem_of_getElem? (i := 11) rfl), rfl⟩
theorem se_X10_layMeetings : Cond.selects RX10 yX10_layMeetings yX10_layMeetings ∈ TS := List.mem_filter.mpr ⟨sp_3 (yX10_layMeetings, 32) (List.mem_of_getElem? (i := 12) rfl), rfl⟩
theorem se_X10_layPages : Cond.selects RX10 yX10_layPages yX10_layPages ∈ TS := List.mem_filter.mpr ⟨sp_3 (yX10_layPages, 32) (List.mem_of_getElem? (i := 13) rfl), rfl⟩
theorem se_X10_layLegs : Cond.selects RX10 yX10_layLegs yX10_layLegs ∈ TS := List.mem_filter.mpr ⟨sp_3 (yX10_layLegs, 32) (List.mem_of_getElem? (i := 14) rfl), rfl⟩
theorem se_X10_span : Cond.selects RX10 yX10_span yX10_span ∈ TS := List.mem_filter.mpr ⟨sp_3 (yX10_span, 32) (List.mem_of_getElem? (i := 15) rfl), rfl⟩
theorem se_X10_newPage : Cond.selects RX10 yX10_newPage yX10_newPage ∈ TS := List.mem_filter.mpr ⟨sp_4 (yX10_newPage, 32) (List.mem_of_getElem? (i := 0) rfl), rfl⟩
theorem se_X10_addLeg : Cond.selects RX10 yX10_addLeg yX10_addLeg ∈ TS := List.mem_filter.mpr ⟨sp_4 (yX10_addLeg, 32) (List.mem_of_getElem? (i := 1) rfl), rfl⟩
theorem se_X10_join : Cond.selects RX10 yX10_join yX10_join ∈ TS := List.mem_filter.mpr ⟨sp_4 (yX10_join, 32) (List.mem_of_getElem? (i := 2) rfl), rfl⟩
theorem se_X10_growth : Cond.selects RX10 yX10_growth yX10_growth ∈ TS := List.mem_filter.mpr ⟨sp_4 (yX10_growth, 32) (List.mem_of_getElem? (i := 3) rfl), rfl⟩
theorem se_X10_sizeWith : Cond.selects RX10 yX10_sizeWith yX10_sizeWith ∈ TS := List.mem_filter.mpr ⟨sp_4 (yX10_sizeWith, 32) (List.mem_of_getElem? (i := 4) rfl), rfl⟩
theorem se_X10_put : Cond.selects RX10 yX10_put yX10_put ∈ TS := List.mem_filter.mpr ⟨sp_4 (yX10_put, 32) (List.mem_of_getElem? (i := 5) rfl), rfl⟩
theorem se_X10_cut : Cond.selects RX10 yX10_cut yX10_cut ∈ TS := List.mem_filter.mpr ⟨sp_4 (yX10_cut, 32) (List.mem_of_getElem? (i := 6) rfl), rfl⟩
theorem se_X10_sort : Cond.selects RX10 yX10_sort yX10_sort ∈ TS := List.mem_filter.mpr ⟨sp_4 (yX10_sort, 32) (List.mem_of_getElem? (i := 7) rfl), rfl⟩
theorem se_X10_isBehind : Cond.selects RX10 yX10_isBehind yX10_isBehind ∈ TS := List.mem_filter.mpr ⟨sp_4 (yX10_isBehind, 32) (List.mem_of_getElem? (i := 8) rfl), rfl⟩
theorem se_X10_sizeOf : Cond.selects RX10 yX10_sizeOf yX10_sizeOf ∈ TS := List.mem_filter.mpr ⟨sp_4 (yX10_sizeOf, 32) (List.mem_of_getElem? (i := 9) rfl), rfl⟩
theorem se_X10_touchesPage : Cond.selects RX10 yX10_touchesPage yX10_touchesPage ∈ TS := List.mem_filter.mpr ⟨sp_4 (yX10_touchesPage, 32) (List.mem_of_getElem? (i := 10) rfl), rfl⟩
theorem se_X10_touches : Cond.selects RX10 yX10_touches yX10_touches ∈ TS := List.mem_filter.mpr ⟨sp_4 (yX10_touches, 32) (List.mem_of_getElem? (i := 11) rfl), rfl⟩
theorem se_X10_touchesLeg : Cond.selects RX10 yX10_touchesLeg yX10_touchesLeg ∈ TS := List.mem_filter.mpr ⟨sp_4 (yX10_touchesLeg, 32) (List.mem_of_getElem? (i := 12) rfl), rfl⟩
theorem se_X10_mayThin : Cond.selects RX10 yX10_mayThin yX10_mayThin ∈ TS := List.mem_filter.mpr ⟨sp_4 (yX10_mayThin, 32) (List.mem_of_getElem? (i := 13) rfl), rfl⟩
theorem se_X10_layThin : Cond.selects RX10 yX10_layThin yX10_layThin ∈ TS := List.mem_filter.mpr ⟨sp_4 (yX10_layThin, 32) (List.mem_of_getElem? (i := 14) rfl), rfl⟩
theorem se_X10_mayFollow : Cond.selects RX10 yX10_mayFollow yX10_mayFollow ∈ TS := List.mem_filter.mpr ⟨sp_4 (yX10_mayFollow, 32) (List.mem_of_getElem? (i := 15) rfl), rfl⟩
theorem se_X10_mayChange : Cond.selects RX10 yX10_mayChange yX10_mayChange ∈ TS := List.mem_filter.mpr ⟨sp_5 (yX10_mayChange, 32) (List.mem_of_getElem? (i := 0) rfl), rfl⟩
theorem se_X10_isInStand : Cond.selects RX10 yX10_isInStand yX10_isInStand ∈ TS := List.mem_filter.mpr ⟨sp_5 (yX10_isInStand, 32) (List.mem_of_getElem? (i := 1) rfl), rfl⟩
theorem se_X10_loadOf : Cond.selects RX10 yX10_loadOf yX10_loadOf ∈ TS := List.mem_filter.mpr ⟨sp_5 (yX10_loadOf, 32) (List.mem_of_getElem? (i := 2) rfl), rfl⟩
theorem se_X10_bestLoad : Cond.selects RX10 yX10_bestLoad yX10_bestLoad ∈ TS := List.mem_filter.mpr ⟨sp_5 (yX10_bestLoad, 32) (List.mem_of_getElem? (i := 3) rfl), rfl⟩
theorem se_X10_machinesFor : Cond.selects RX10 yX10_machinesFor yX10_machinesFor ∈ TS := List.mem_filter.mpr ⟨sp_5 (yX10_machinesFor, 32) (List.mem_of_getElem? (i := 4) rfl), rfl⟩
theorem ly_X0_0 : u_lay RX0 TX0 0 ∈ TS := List.mem_filter.mpr ⟨tb_1 _ (List.mem_of_getElem? (i := 129) rfl), rfl⟩
theorem lyk_X0 : ∀ k, k < 1 → u_lay RX0 TX0 k ∈ TS := fun k hk => match k, hk with
  | 0, _ => ly_X0_0
  | k + 1, h => absurd h (by omega)
theorem inX0 : ∀ w ∈ u_ws RX0 TX0 1, w ∈ TS := fun w h => by
  obtain ⟨k, hk, rfl⟩ := List.mem_map.mp h
  exact lyk_X0 k (List.mem_range.mp hk)
theorem ly_X1_0 : u_lay RX1 TX1 0 ∈ TS := List.mem_filter.mpr ⟨tb_1 _ (List.mem_of_getElem? (i := 209) rfl), rfl⟩
theorem lyk_X1 : ∀ k, k < 1 → u_lay RX1 TX1 k ∈ TS := fun k hk => match k, hk with
  | 0, _ => ly_X1_0
  | k + 1, h => absurd h (by omega)
theorem inX1 : ∀ w ∈ u_ws RX1 TX1 1, w ∈ TS := fun w h => by
  obtain ⟨k, hk, rfl⟩ := List.mem_map.mp h
  exact lyk_X1 k (List.mem_range.mp hk)
theorem ly_X2_0 : u_lay RX2 TX2 0 ∈ TS := List.mem_filter.mpr ⟨tb_1 _ (List.mem_of_getElem? (i := 151) rfl), rfl⟩
theorem ly_X2_1 : u_lay RX2 TX2 1 ∈ TS := List.mem_filter.mpr ⟨tb_1 _ (List.mem_of_getElem? (i := 153) rfl), rfl⟩
theorem ly_X2_2 : u_lay RX2 TX2 2 ∈ TS := List.mem_filter.mpr ⟨tb_1 _ (List.mem_of_getElem? (i := 155) rfl), rfl⟩
theorem ly_X2_3 : u_lay RX2 TX2 3 ∈ TS := List.mem_filter.mpr ⟨tb_1 _ (List.mem_of_getElem? (i := 157) rfl), rfl⟩
theorem ly_X2_4 : u_lay RX2 TX2 4 ∈ TS := List.mem_filter.mpr ⟨tb_1 _ (List.mem_of_getElem? (i := 159) rfl), rfl⟩
theorem ly_X2_5 : u_lay RX2 TX2 5 ∈ TS := List.mem_filter.mpr ⟨tb_1 _ (List.mem_of_getElem? (i := 161) rfl), rfl⟩
theorem ly_X2_6 : u_lay RX2 TX2 6 ∈ TS := List.mem_filter.mpr ⟨tb_1 _ (List.mem_of_getElem? (i := 163) rfl), rfl⟩
theorem ly_X2_7 : u_lay RX2 TX2 7 ∈ TS := List.mem_filter.mpr ⟨tb_1 _ (List.mem_of_getElem? (i := 165) rfl), rfl⟩
theorem ly_X2_8 : u_lay RX2 TX2 8 ∈ TS := List.mem_filter.mpr ⟨tb_1 _ (List.mem_of_getElem? (i := 167) rfl), rfl⟩
theorem ly_X2_9 : u_lay RX2 TX2 9 ∈ TS := List.mem_filter.mpr ⟨tb_1 _ (List.mem_of_getElem? (i := 169) rfl), rfl⟩
theorem ly_X2_10 : u_lay RX2 TX2 10 ∈ TS := List.mem_filter.mpr ⟨tb_1 _ (List.mem_of_getElem? (i := 171) rfl), rfl⟩
theorem ly_X2_11 : u_lay RX2 TX2 11 ∈ TS := List.mem_filter.mpr ⟨tb_1 _ (List.mem_of_getElem? (i := 173) rfl), rfl⟩
theorem ly_X2_12 : u_lay RX2 TX2 12 ∈ TS := List.mem_filter.mpr ⟨tb_1 _ (List.mem_of_getElem? (i := 175) rfl), rfl⟩
theorem ly_X2_13 : u_lay RX2 TX2 13 ∈ TS := List.mem_filter.mpr ⟨tb_1 _ (List.mem_of_getElem? (i := 177) rfl), rfl⟩
theorem ly_X2_14 : u_lay RX2 TX2 14 ∈ TS := List.mem_filter.mpr ⟨tb_1 _ (List.mem_of_getElem? (i := 179) rfl), rfl⟩
theorem lyk_X2 : ∀ k, k < 15 → u_lay RX2 TX2 k ∈ TS := fun k hk => match k, hk with
  | 0, _ => ly_X2_0
  | 1, _ => ly_X2_1
  | 2, _ => ly_X2_2
  | 3, _ => ly_X2_3
  | 4, _ => ly_X2_4
  | 5, _ => ly_X2_5
  | 6, _ => ly_X2_6
  | 7, _ => ly_X2_7
  | 8, _ => ly_X2_8
  | 9, _ => ly_X2_9
  | 10, _ => ly_X2_10
  | 11, _ => ly_X2_11
  | 12, _ => ly_X2_12
  | 13, _ => ly_X2_13
  | 14, _ => ly_X2_14
  | k + 15, h => absurd h (by omega)
theorem inX2 : ∀ w ∈ u_ws RX2 TX2 15, w ∈ TS := fun w h => by
  obtain ⟨k, hk, rfl⟩ := List.mem_map.mp h
  exact lyk_X2 k (List.mem_range.mp hk)
theorem ly_X3_0 : u_lay RX3 TX3 0 ∈ TS := List.mem_filter.mpr ⟨tb_1 _ (List.mem_of_getElem? (i := 39) rfl), rfl⟩
theorem ly_X3_1 : u_lay RX3 TX3 1 ∈ TS := List.mem_filter.mpr ⟨tb_1 _ (List.mem_of_getElem? (i := 41) rfl), rfl⟩
theorem ly_X3_2 : u_lay RX3 TX3 2 ∈ TS := List.mem_filter.mpr ⟨tb_1 _ (List.mem_of_getElem? (i := 43) rfl), rfl⟩
theorem ly_X3_3 : u_lay RX3 TX3 3 ∈ TS := List.mem_filter.mpr ⟨tb_1 _ (List.mem_of_getElem? (i := 45) rfl), rfl⟩
theorem lyk_X3 : ∀ k, k < 4 → u_lay RX3 TX3 k ∈ TS := fun k hk => match k, hk with
  | 0, _ => ly_X3_0
  | 1, _ => ly_X3_1
  | 2, _ => ly_X3_2
  | 3, _ => ly_X3_3
  | k + 4, h => absurd h (by omega)
theorem inX3 : ∀ w ∈ u_ws RX3 TX3 4, w ∈ TS := fun w h => by
  obtain ⟨k, hk, rfl⟩ := List.mem_map.mp h
  exact lyk_X3 k (List.mem_range.mp hk)
theorem ly_X4_0 : u_lay RX4 TX4 0 ∈ TS := List.mem_filter.mpr ⟨tb_1 _ (List.mem_of_getElem? (i := 103) rfl), rfl⟩
theorem ly_X4_1 : u_lay RX4 TX4 1 ∈ TS := List.mem_filter.mpr ⟨tb_1 _ (List.mem_of_getElem? (i := 105) rfl), rfl⟩
theorem ly_X4_2 : u_lay RX4 TX4 2 ∈ TS := List.mem_filter.mpr ⟨tb_1 _ (List.mem_of_getElem? (i := 107) rfl), rfl⟩
theorem ly_X4_3 : u_lay RX4 TX4 3 ∈ TS := List.mem_filter.mpr ⟨tb_1 _ (List.mem_of_getElem? (i := 109) rfl), rfl⟩
theorem lyk_X4 : ∀ k, k < 4 → u_lay RX4 TX4 k ∈ TS := fun k hk => match k, hk with
  | 0, _ => ly_X4_0
  | 1, _ => ly_X4_1
  | 2, _ => ly_X4_2
  | 3, _ => ly_X4_3
  | k + 4, h => absurd h (by omega)
theorem inX4 : ∀ w ∈ u_ws RX4 TX4 4, w ∈ TS := fun w h => by
  obtain ⟨k, hk, rfl⟩ := List.mem_map.mp h
  exact lyk_X4 k (List.mem_range.mp hk)
theorem ly_X5_0 : u_lay RX5 TX5 0 ∈ TS := List.mem_filter.mpr ⟨tb_1 _ (List.mem_of_getElem? (i := 85) rfl), rfl⟩
theorem ly_X5_1 : u_lay RX5 TX5 1 ∈ TS := List.mem_filter.mpr ⟨tb_1 _ (List.mem_of_getElem? (i := 87) rfl), rfl⟩
theorem ly_X5_2 : u_lay RX5 TX5 2 ∈ TS := List.mem_filter.mpr ⟨tb_1 _ (List.mem_of_getElem? (i := 89) rfl), rfl⟩
theorem lyk_X5 : ∀ k, k < 3 → u_lay RX5 TX5 k ∈ TS := fun k hk => match k, hk with
  | 0, _ => ly_X5_0
  | 1, _ => ly_X5_1
  | 2, _ => ly_X5_2
  | k + 3, h => absurd h (by omega)
theorem inX5 : ∀ w ∈ u_ws RX5 TX5 3, w ∈ TS := fun w h => by
  obtain ⟨k, hk, rfl⟩ := List.mem_map.mp h
  exact lyk_X5 k (List.mem_range.mp hk)
theorem ly_X6_0 : u_lay RX6 TX6 0 ∈ TS := List.mem_filter.mpr ⟨tb_1 _ (List.mem_of_getElem? (i := 66) rfl), rfl⟩
theorem ly_X6_1 : u_lay RX6 TX6 1 ∈ TS := List.mem_filter.mpr ⟨tb_1 _ (List.mem_of_getElem? (i := 68) rfl), rfl⟩
theorem ly_X6_2 : u_lay RX6 TX6 2 ∈ TS := List.mem_filter.mpr ⟨tb_1 _ (List.mem_of_getElem? (i := 70) rfl), rfl⟩
theorem lyk_X6 : ∀ k, k < 3 → u_lay RX6 TX6 k ∈ TS := fun k hk => match k, hk with
  | 0, _ => ly_X6_0
  | 1, _ => ly_X6_1
  | 2, _ => ly_X6_2
  | k + 3, h => absurd h (by omega)
theorem inX6 : ∀ w ∈ u_ws RX6 TX6 3, w ∈ TS := fun w h => by
  obtain ⟨k, hk, rfl⟩ := List.mem_map.mp h
  exact lyk_X6 k (List.mem_range.mp hk)
theorem ly_X7_0 : u_lay RX7 TX7 0 ∈ TS := List.mem_filter.mpr ⟨tb_1 _ (List.mem_of_getElem? (i := 194) rfl), rfl⟩
theorem ly_X7_1 : u_lay RX7 TX7 1 ∈ TS := List.mem_filter.mpr ⟨tb_1 _ (List.mem_of_getElem? (i := 196) rfl), rfl⟩
theorem ly_X7_2 : u_lay RX7 TX7 2 ∈ TS := List.mem_filter.mpr ⟨tb_1 _ (List.mem_of_getElem? (i := 198) rfl), rfl⟩
theorem lyk_X7 : ∀ k, k < 3 → u_lay RX7 TX7 k ∈ TS := fun k hk => match k, hk with
  | 0, _ => ly_X7_0
  | 1, _ => ly_X7_1
  | 2, _ => ly_X7_2
  | k + 3, h => absurd h (by omega)
theorem inX7 : ∀ w ∈ u_ws RX7 TX7 3, w ∈ TS := fun w h => by
  obtain ⟨k, hk, rfl⟩ := List.mem_map.mp h
  exact lyk_X7 k (List.mem_range.mp hk)
theorem ly_X8_0 : u_lay RX8 TX8 0 ∈ TS := List.mem_filter.mpr ⟨tb_1 _ (List.mem_of_getElem? (i := 234) rfl), rfl⟩
theorem ly_X8_1 : u_lay RX8 TX8 1 ∈ TS := List.mem_filter.mpr ⟨tb_1 _ (List.mem_of_getElem? (i := 236) rfl), rfl⟩
theorem ly_X8_2 : u_lay RX8 TX8 2 ∈ TS := List.mem_filter.mpr ⟨tb_1 _ (List.mem_of_getElem? (i := 238) rfl), rfl⟩
theorem ly_X8_3 : u_lay RX8 TX8 3 ∈ TS := List.mem_filter.mpr ⟨tb_2 _ (List.mem_of_getElem? (i := 0) rfl), rfl⟩
theorem ly_X8_4 : u_lay RX8 TX8 4 ∈ TS := List.mem_filter.mpr ⟨tb_2 _ (List.mem_of_getElem? (i := 2) rfl), rfl⟩
theorem lyk_X8 : ∀ k, k < 5 → u_lay RX8 TX8 k ∈ TS := fun k hk => match k, hk with
  | 0, _ => ly_X8_0
  | 1, _ => ly_X8_1
  | 2, _ => ly_X8_2
  | 3, _ => ly_X8_3
  | 4, _ => ly_X8_4
  | k + 5, h => absurd h (by omega)
theorem inX8 : ∀ w ∈ u_ws RX8 TX8 5, w ∈ TS := fun w h => by
  obtain ⟨k, hk, rfl⟩ := List.mem_map.mp h
  exact lyk_X8 k (List.mem_range.mp hk)
theorem ly_X9_0 : u_lay RX9 TX9 0 ∈ TS := List.mem_filter.mpr ⟨tb_2 _ (List.mem_of_getElem? (i := 19) rfl), rfl⟩
theorem ly_X9_1 : u_lay RX9 TX9 1 ∈ TS := List.mem_filter.mpr ⟨tb_2 _ (List.mem_of_getElem? (i := 21) rfl), rfl⟩
theorem ly_X9_2 : u_lay RX9 TX9 2 ∈ TS := List.mem_filter.mpr ⟨tb_2 _ (List.mem_of_getElem? (i := 23) rfl), rfl⟩
theorem ly_X9_3 : u_lay RX9 TX9 3 ∈ TS := List.mem_filter.mpr ⟨tb_2 _ (List.mem_of_getElem? (i := 25) rfl), rfl⟩
theorem ly_X9_4 : u_lay RX9 TX9 4 ∈ TS := List.mem_filter.mpr ⟨tb_2 _ (List.mem_of_getElem? (i := 27) rfl), rfl⟩
theorem ly_X9_5 : u_lay RX9 TX9 5 ∈ TS := List.mem_filter.mpr ⟨tb_2 _ (List.mem_of_getElem? (i := 29) rfl), rfl⟩
theorem ly_X9_6 : u_lay RX9 TX9 6 ∈ TS := List.mem_filter.mpr ⟨tb_2 _ (List.mem_of_getElem? (i := 31) rfl), rfl⟩
theorem ly_X9_7 : u_lay RX9 TX9 7 ∈ TS := List.mem_filter.mpr ⟨tb_2 _ (List.mem_of_getElem? (i := 33) rfl), rfl⟩
theorem ly_X9_8 : u_lay RX9 TX9 8 ∈ TS := List.mem_filter.mpr ⟨tb_2 _ (List.mem_of_getElem? (i := 35) rfl), rfl⟩
theorem ly_X9_9 : u_lay RX9 TX9 9 ∈ TS := List.mem_filter.mpr ⟨tb_2 _ (List.mem_of_getElem? (i := 37) rfl), rfl⟩
theorem ly_X9_10 : u_lay RX9 TX9 10 ∈ TS := List.mem_filter.mpr ⟨tb_2 _ (List.mem_of_getElem? (i := 39) rfl), rfl⟩
theorem ly_X9_11 : u_lay RX9 TX9 11 ∈ TS := List.mem_filter.mpr ⟨tb_2 _ (List.mem_of_getElem? (i := 41) rfl), rfl⟩
theorem ly_X9_12 : u_lay RX9 TX9 12 ∈ TS := List.mem_filter.mpr ⟨tb_2 _ (List.mem_of_getElem? (i := 43) rfl), rfl⟩
theorem ly_X9_13 : u_lay RX9 TX9 13 ∈ TS := List.mem_filter.mpr ⟨tb_2 _ (List.mem_of_getElem? (i := 45) rfl), rfl⟩
theorem lyk_X9 : ∀ k, k < 14 → u_lay RX9 TX9 k ∈ TS := fun k hk => match k, hk with
  | 0, _ => ly_X9_0
  | 1, _ => ly_X9_1
  | 2, _ => ly_X9_2
  | 3, _ => ly_X9_3
  | 4, _ => ly_X9_4
  | 5, _ => ly_X9_5
  | 6, _ => ly_X9_6
  | 7, _ => ly_X9_7
  | 8, _ => ly_X9_8
  | 9, _ => ly_X9_9
  | 10, _ => ly_X9_10
  | 11, _ => ly_X9_11
  | 12, _ => ly_X9_12
  | 13, _ => ly_X9_13
  | k + 14, h => absurd h (by omega)
theorem inX9 : ∀ w ∈ u_ws RX9 TX9 14, w ∈ TS := fun w h => by
  obtain ⟨k, hk, rfl⟩ := List.mem_map.mp h
  exact lyk_X9 k (List.mem_range.mp hk)
theorem ly_X10_0 : u_lay RX10 TX10 0 ∈ TS := List.mem_filter.mpr ⟨tb_4 _ (List.mem_of_getElem? (i := 76) rfl), rfl⟩
theorem ly_X10_1 : u_lay RX10 TX10 1 ∈ TS := List.mem_filter.mpr ⟨tb_4 _ (List.mem_of_getElem? (i := 78) rfl), rfl⟩
theorem ly_X10_2 : u_lay RX10 TX10 2 ∈ TS := List.mem_filter.mpr ⟨tb_4 _ (List.mem_of_getElem? (i := 80) rfl), rfl⟩
theorem ly_X10_3 : u_lay RX10 TX10 3 ∈ TS := List.mem_filter.mpr ⟨tb_4 _ (List.mem_of_getElem? (i := 82) rfl), rfl⟩
theorem ly_X10_4 : u_lay RX10 TX10 4 ∈ TS := List.mem_filter.mpr ⟨tb_4 _ (List.mem_of_getElem? (i := 84) rfl), rfl⟩
theorem ly_X10_5 : u_lay RX10 TX10 5 ∈ TS := List.mem_filter.mpr ⟨tb_4 _ (List.mem_of_getElem? (i := 86) rfl), rfl⟩
theorem ly_X10_6 : u_lay RX10 TX10 6 ∈ TS := List.mem_filter.mpr ⟨tb_4 _ (List.mem_of_getElem? (i := 88) rfl), rfl⟩
theorem ly_X10_7 : u_lay RX10 TX10 7 ∈ TS := List.mem_filter.mpr ⟨tb_4 _ (List.mem_of_getElem? (i := 90) rfl), rfl⟩
theorem ly_X10_8 : u_lay RX10 TX10 8 ∈ TS := List.mem_filter.mpr ⟨tb_4 _ (List.mem_of_getElem? (i := 92) rfl), rfl⟩
theorem ly_X10_9 : u_lay RX10 TX10 9 ∈ TS := List.mem_filter.mpr ⟨tb_4 _ (List.mem_of_getElem? (i := 94) rfl), rfl⟩
theorem ly_X10_10 : u_lay RX10 TX10 10 ∈ TS := List.mem_filter.mpr ⟨tb_4 _ (List.mem_of_getElem? (i := 96) rfl), rfl⟩
theorem ly_X10_11 : u_lay RX10 TX10 11 ∈ TS := List.mem_filter.mpr ⟨tb_4 _ (List.mem_of_getElem? (i := 98) rfl), rfl⟩
theorem ly_X10_12 : u_lay RX10 TX10 12 ∈ TS := List.mem_filter.mpr ⟨tb_4 _ (List.mem_of_getElem? (i := 100) rfl), rfl⟩
theorem ly_X10_13 : u_lay RX10 TX10 13 ∈ TS := List.mem_filter.mpr ⟨tb_4 _ (List.mem_of_getElem? (i := 102) rfl), rfl⟩
theorem ly_X10_14 : u_lay RX10 TX10 14 ∈ TS := List.mem_filter.mpr ⟨tb_4 _ (List.mem_of_getElem? (i := 104) rfl), rfl⟩
theorem ly_X10_15 : u_lay RX10 TX10 15 ∈ TS := List.mem_filter.mpr ⟨tb_4 _ (List.mem_of_getElem? (i := 106) rfl), rfl⟩
theorem ly_X10_16 : u_lay RX10 TX10 16 ∈ TS := List.mem_filter.mpr ⟨tb_4 _ (List.mem_of_getElem? (i := 108) rfl), rfl⟩
theorem ly_X10_17 : u_lay RX10 TX10 17 ∈ TS := List.mem_filter.mpr ⟨tb_4 _ (List.mem_of_getElem? (i := 110) rfl), rfl⟩
theorem ly_X10_18 : u_lay RX10 TX10 18 ∈ TS := List.mem_filter.mpr ⟨tb_4 _ (List.mem_of_getElem? (i := 112) rfl), rfl⟩
theorem ly_X10_19 : u_lay RX10 TX10 19 ∈ TS := List.mem_filter.mpr ⟨tb_4 _ (List.mem_of_getElem? (i := 114) rfl), rfl⟩
theorem ly_X10_20 : u_lay RX10 TX10 20 ∈ TS := List.mem_filter.mpr ⟨tb_4 _ (List.mem_of_getElem? (i := 116) rfl), rfl⟩
theorem ly_X10_21 : u_lay RX10 TX10 21 ∈ TS := List.mem_filter.mpr ⟨tb_4 _ (List.mem_of_getElem? (i := 118) rfl), rfl⟩
theorem ly_X10_22 : u_lay RX10 TX10 22 ∈ TS := List.mem_filter.mpr ⟨tb_4 _ (List.mem_of_getElem? (i := 120) rfl), rfl⟩
theorem ly_X10_23 : u_lay RX10 TX10 23 ∈ TS := List.mem_filter.mpr ⟨tb_4 _ (List.mem_of_getElem? (i := 122) rfl), rfl⟩
theorem ly_X10_24 : u_lay RX10 TX10 24 ∈ TS := List.mem_filter.mpr ⟨tb_4 _ (List.mem_of_getElem? (i := 124) rfl), rfl⟩
theorem ly_X10_25 : u_lay RX10 TX10 25 ∈ TS := List.mem_filter.mpr ⟨tb_4 _ (List.mem_of_getElem? (i := 126) rfl), rfl⟩
theorem ly_X10_26 : u_lay RX10 TX10 26 ∈ TS := List.mem_filter.mpr ⟨tb_4 _ (List.mem_of_getElem? (i := 128) rfl), rfl⟩
theorem ly_X10_27 : u_lay RX10 TX10 27 ∈ TS := List.mem_filter.mpr ⟨tb_4 _ (List.mem_of_getElem? (i := 130) rfl), rfl⟩
theorem ly_X10_28 : u_lay RX10 TX10 28 ∈ TS := List.mem_filter.mpr ⟨tb_4 _ (List.mem_of_getElem? (i := 132) rfl), rfl⟩
theorem ly_X10_29 : u_lay RX10 TX10 29 ∈ TS := List.mem_filter.mpr ⟨tb_4 _ (List.mem_of_getElem? (i := 134) rfl), rfl⟩
theorem ly_X10_30 : u_lay RX10 TX10 30 ∈ TS := List.mem_filter.mpr ⟨tb_4 _ (List.mem_of_getElem? (i := 136) rfl), rfl⟩
theorem ly_X10_31 : u_lay RX10 TX10 31 ∈ TS := List.mem_filter.mpr ⟨tb_4 _ (List.mem_of_getElem? (i := 138) rfl), rfl⟩
theorem lyk_X10 : ∀ k, k < 32 → u_lay RX10 TX10 k ∈ TS := fun k hk => match k, hk with
  | 0, _ => ly_X10_0
  | 1, _ => ly_X10_1
  | 2, _ => ly_X10_2
  | 3, _ => ly_X10_3
  | 4, _ => ly_X10_4
  | 5, _ => ly_X10_5
  | 6, _ => ly_X10_6
  | 7, _ => ly_X10_7
  | 8, _ => ly_X10_8
  | 9, _ => ly_X10_9
  | 10, _ => ly_X10_10
  | 11, _ => ly_X10_11
  | 12, _ => ly_X10_12
  | 13, _ => ly_X10_13
  | 14, _ => ly_X10_14
  | 15, _ => ly_X10_15
  | 16, _ => ly_X10_16
  | 17, _ => ly_X10_17
  | 18, _ => ly_X10_18
  | 19, _ => ly_X10_19
  | 20, _ => ly_X10_20
  | 21, _ => ly_X10_21
  | 22, _ => ly_X10_22
  | 23, _ => ly_X10_23
  | 24, _ => ly_X10_24
  | 25, _ => ly_X10_25
  | 26, _ => ly_X10_26
  | 27, _ => ly_X10_27
  | 28, _ => ly_X10_28
  | 29, _ => ly_X10_29
  | 30, _ => ly_X10_30
  | 31, _ => ly_X10_31
  | k + 32, h => absurd h (by omega)
theorem inX10 : ∀ w ∈ u_ws RX10 TX10 32, w ∈ TS := fun w h => by
  obtain ⟨k, hk, rfl⟩ := List.mem_map.mp h
  exact lyk_X10 k (List.mem_range.mp hk)
end
section
/-! BASE: a picture of the machine in whole numbers: values, cells by small numbers, one judgement T (a method's frame comes to its end with Q), one contract Con -/
abbrev PV : Type := Int ⊕ (Int ⊕ (Nat ⊕ Bool))
abbrev vI (x : Int) : PV := .inl x
abbrev vL (x : Int) : PV := .inr (.inl x)
abbrev vR (k : Nat) : PV := .inr (.inr (.inl k))
abbrev vU : PV := .inr (.inr (.inr false))
abbrev vS : PV := .inr (.inr (.inr true))
abbrev Mem : Type := Nat → Nat → Int
abbrev HS : Type := Nat × (Nat → Nat × Nat) × Mem
/-- where the cells begin; the script's cell, length, ints; the classes; the array classes -/
abbrev En : Type := Nat × Nat × Nat × (Nat → Int32) × va_G × (Nat → ClassId)
abbrev enB (E : En) : Nat := E.1
abbrev enS (E : En) : Nat := E.2.1
abbrev enL (E : En) : Nat := E.2.2.1
abbrev enX (E : En) : Nat → Int32 := E.2.2.2.1
abbrev enD (E : En) : va_G := E.2.2.2.2.1
abbrev enA (E : En) : Nat → ClassId := E.2.2.2.2.2
/-- own class, code, locals, what it returns, a constructor, the law, frames, words, cells, slots, name, the script -/
abbrev MI : Type := String × ByteArray × Nat × Option FieldType × Bool × Bool × Nat × Nat × Nat × Nat × MethodName × (Nat × (Nat → Int))
abbrev miO (M : MI) : String := M.1
abbrev miC (M : MI) : ByteArray := M.2.1
abbrev miL (M : MI) : Nat := M.2.2.1
abbrev miR (M : MI) : Option FieldType := M.2.2.2.1
abbrev miI (M : MI) : Bool := M.2.2.2.2.1
abbrev miW (M : MI) : Bool := M.2.2.2.2.2.1
abbrev miF (M : MI) : Nat := M.2.2.2.2.2.2.1
abbrev miV (M : MI) : Nat := M.2.2.2.2.2.2.2.1
abbrev miK (M : MI) : Nat := M.2.2.2.2.2.2.2.2.1
abbrev miM (M : MI) : Nat := M.2.2.2.2.2.2.2.2.2.1
abbrev miY (M : MI) : MethodName := M.2.2.2.2.2.2.2.2.2.2.1
abbrev miX (M : MI) : Nat × (Nat → Int) := M.2.2.2.2.2.2.2.2.2.2.2
def real (E : En) : PV → Value
  | .inl x => .int (Int32.ofInt x)
  | .inr (.inl x) => .long (Int64.ofInt x)
  | .inr (.inr (.inl k)) => .ref (enB E + k)
  | .inr (.inr (.inr _)) => .ref (enS E)
theorem real_I (E : En) (x : Int) : real E (.inl x) = .int (Int32.ofInt x) := rfl
theorem real_L (E : En) (x : Int) : real E (.inr (.inl x)) = .long (Int64.ofInt x) := rfl
theorem real_R (E : En) (k : Nat) : real E (.inr (.inr (.inl k))) = .ref (enB E + k) := rfl
theorem real_S (E : En) (b : Bool) : real E (.inr (.inr (.inr b))) = .ref (enS E) := rfl
def pcat : PV → Nat
  | .inr (.inl _) => 2
  | _ => 1
theorem real_cat (E : En) (v : PV) : (real E v).category = pcat v := by
  rcases v with x | x | x | x <;> rfl
def rn (E : En) (x : Int) : Option Nat := if x < 0 then none else some (enB E + x.toNat)
def rv (E : En) (ty : FieldType) (x : Int) : Value := match ty with
  | .long => .long (Int64.ofInt x)
  | .object _ => va_rf (rn E x)
  | .array _ => va_rf (rn E x)
  | _ => .int (Int32.ofInt x)
def tyC (c : Nat) : Nat → FieldType := match c with
  | 0 => tyX0
  | 1 => tyX1
  | 2 => tyX2
  | 3 => tyX3
  | 4 => tyX4
  | 5 => tyX5
  | 6 => tyX6
  | 7 => tyX7
  | 8 => tyX8
  | 9 => tyX9
  | _ => tyX10
def cellE (E : En) (kd : Nat × Nat) (f : Nat → Int) : va_E :=
  if kd.1 = 20 ∨ kd.1 = 22 then .inl (enA E kd.1, kd.2, .inl (fun i => Int32.ofInt (f i)))
  else if kd.1 = 21 then .inl (enA E kd.1, kd.2, .inr (.inl (fun i => Int64.ofInt (f i))))
  else if kd.1 = 23 ∨ kd.1 = 24 then .inl (enA E kd.1, kd.2, .inr (.inr (.inr (.inr (fun i => rn E (f i))))))
  else .inr (kd.1, (List.range kd.2).map (fun j => rv E (tyC kd.1 j) (f j)))
def world (E : En) (h : HS) : va_W := (List.range h.1).map (fun k => (enB E + k, cellE E (h.2.1 k) (h.2.2 k)))
theorem world_at (E : En) (h : HS) {k : Nat} (hk : k < h.1) : (world E h)[k]? = some (enB E + k, cellE E (h.2.1 k) (h.2.2 k)) := by
  simp [world, hk]
theorem world_inv {E : En} {h : HS} {k : Nat} {q : Nat × va_E} (hq : (world E h)[k]? = some q) : k < h.1 ∧ q = (enB E + k, cellE E (h.2.1 k) (h.2.2 k)) := by
  have hk : k < h.1 := by
    have := (List.getElem?_eq_some_iff.mp hq).1
    simpa [world] using this
  exact ⟨hk, by rw [world_at E h hk] at hq; exact (Option.some.inj hq).symm⟩
theorem world_D (E : En) (h : HS) : va_D (fun q => enB E ≤ q) (world E h) := by
  refine ⟨fun i j p q hi hj e => ?_, fun k q hk => ?_⟩
  · obtain ⟨-, rfl⟩ := world_inv hi
    obtain ⟨-, rfl⟩ := world_inv hj
    have e : enB E + i = enB E + j := e
    omega
  · obtain ⟨-, rfl⟩ := world_inv hk
    exact Nat.le_add_right _ _
def tysE (E : En) : List (ClassId × FieldType) := [(enA E 20, .int), (enA E 21, .long), (enA E 22, .boolean), (enA E 23, .object RX8), (enA E 24, .object RX3)]
def nestW : List (String × Nat × MethodName) := [(RX9, 21, yX3_init), (RX9, 28, yX6_init), (RX9, 38, yX5_init), (RX9, 45, yX4_init), (RX9, 52, yX2_init), (RX9, 59, yX7_init), (RX9, 66, yX1_init), (RX9, 85, yX8_init), (RX4, 26, yX9_isWithin), (RX1, 15, yX9_isWithin)]
def Kx (E : En) (U : State) : Prop := va_K (enD E) vwCl (tysE E) U ∧ (va_AO RX8 U ∧ va_AO RX3 U) ∧ ∀ q ∈ nestW, va_Nw (.methodLinkNest q.1 q.2.1 q.2.2 RX9) U
theorem Kx.moved {E : En} {s U : State} (hW : s.WarmedH U.vm) (h : Kx E s) : Kx E U := ⟨h.1.moved hW.alike, ⟨h.2.1.1.moved hW.alike, h.2.1.2.moved hW.alike⟩, fun q hq => va_Nw.warmM hW (h.2.2 q hq)⟩
theorem Kx.same {E : En} {s U : State} (hW : s.vm = U.vm) (h : Kx E s) : Kx E U := ⟨h.1.moved (by rw [hW]; exact Vm.Alike.refl _), ⟨h.2.1.1.moved (by rw [hW]; exact Vm.Alike.refl _), h.2.1.2.moved (by rw [hW]; exact Vm.Alike.refl _)⟩, fun q hq => va_Nw.same rfl hW (h.2.2 q hq)⟩
def Cx (M : MI) (E : En) (p : Program) (R : Room) (s : State) (m : MethodId) (args : Array Value) (meth : Method) (c : Code) : Prop :=
  p.tables.exec = Jvm.exec ∧ c.code = miC M ∧ c.maxLocals = miL M ∧ s.vm.findClass (miO M) = some m.cls ∧ (∀ w ∈ TS, w.before args s = true) ∧ (miI M = true → meth.name = "<init>") ∧ miF M ≤ R.frames ∧ miV M ≤ R.locals ∧ Kx E s ∧ enB E ≤ s.heap.size ∧ (miW M = true → va_X (enS E) (enL E) (enX E) s s.heap ∧ enS E < s.heap.size ∧ enS E < enB E ∧ enL E = (miX M).1 ∧ ∀ j, enX E j = Int32.ofInt ((miX M).2 j))
def Hp (E : En) (bg : Option (Nat × Nat)) (h : HS) (H : Heap) : Prop := va_P (enD E) vwCl (world E h) H ∧ (bg ≠ none → H.size = enB E + h.1)
def retI : Option FieldType → Jvm.ClassFile.Instr
  | none => .return_
  | some .long => .lreturn
  | some _ => .ireturn
def retOK : Option FieldType → Option PV → Prop
  | none, none => True
  | some .int, some (.inl _) => True
  | some .boolean, some (.inl x) => x = 0 ∨ x = 1
  | some .long, some (.inr (.inl _)) => True
  | _, _ => False
def Rt (M : MI) (E : En) (p : Program) (l : Launch) (e : Env) (R : Room) (s : State) (m : MethodId) (args : Array Value) (below : List Frame) (meth : Method) (c : Code) (Z : State → Prop) (Q : Option PV → HS → Prop) : Prop :=
  ∀ (r : Option PV) (h : HS) (H : Heap) (locs : List Loc) (cells slots pc : Nat) (la : Array Slot), Q r h → va_P (enD E) vwCl (world E h) H → (miI M = true → H.size = enB E + h.1) → va_S (fun q => enB E ≤ q) s.heap H locs → cells ≤ R.cells → slots ≤ R.slots → decode (miC M) pc = .ok (retI (miR M), 1) → retOK (miR M) r →
    W p l e R s m args below meth c H locs cells slots Z (F0 m pc la (r.toList.map (real E)))
/-- the locals that are held: all but the unset ones -/
def lvl (E : En) (i : Nat) : List PV → List (Nat × Value)
  | [] => []
  | .inr (.inr (.inr false)) :: ls => lvl E (i + 1) ls
  | v :: ls => (i, real E v) :: lvl E (i + 1) ls
def bgC (bg : Option (Nat × Nat)) : Nat := match bg with
  | none => 0
  | some b => b.1
def bgS (bg : Option (Nat × Nat)) : Nat := match bg with
  | none => 0
  | some b => b.2
def T (M : MI) (pc : Nat) (ls st : List PV) (bg : Option (Nat × Nat)) (h : HS) (Q : Option PV → HS → Prop) : Prop :=
  ∀ (E : En) (p : Program) (l : Launch) (e : Env) (R : Room) (s : State) (m : MethodId) (args : Array Value) (below : List Frame) (meth : Method) (c : Code) (Z : State → Prop) (H : Heap) (locs : List Loc) (cells slots : Nat) (la : Array Slot),
    Cx M E p R s m args meth c → Rt M E p l e R s m args below meth c Z Q → Hp E bg h H → va_S (fun q => enB E ≤ q) s.heap H locs → cells + bgC bg ≤ R.cells → slots + bgS bg ≤ R.slots → lv_has la (miL M) (lvl E 0 ls) →
    W p l e R s m args below meth c H locs cells slots Z (F0 m pc la (st.map (real E)))
def wsY (M : MI) : List Cond := Cond.code (miY M) (miC M) (miL M) (miR M) :: TS
def rmY (M : MI) : Room := { frames := miF M, cells := miK M, slots := miM M, locals := miV M }
def RelS (M : MI) (E : En) (h : HS) (U : State) : Prop := va_P (enD E) vwCl (world E h) U.heap ∧ enB E ≤ U.heap.size ∧ (miI M = true → U.heap.size = enB E + h.1)
def PcY (M : MI) (E : En) (as : List PV) (h : HS) : Array Value → State → Prop := va_Pc (as.map (real E)) (fun U => RelS M E h U ∧ Kx E U)
def QcY (M : MI) (E : En) (Q : Option PV → HS → Prop) : Array Value → State → Outcome → State → Prop := fun _ st oc t => ∃ (r : Option PV) (h : HS), Q r h ∧ oc = .returned (r.map (real E)) ∧ RelS M E h t ∧ va_F (fun q => enB E ≤ q) st t
/-- the contract of a method at these arguments and cells -/
def Con (M : MI) (as : List PV) (h : HS) (Q : Option PV → HS → Prop) : Prop :=
  ∀ (l : Launch) (E : En), Met l (miY M) (wsY M) (rmY M) (PcY M E as h) (QcY M E Q) (miK M) (miM M) (fun q => enB E ≤ q)
/-! numbers -/
abbrev R32 (x : Int) : Prop := -2147483648 ≤ x ∧ x < 2147483648
abbrev R64 (x : Int) : Prop := -9223372036854775808 ≤ x ∧ x < 9223372036854775808
theorem i_add (a b : Int) : Int32.ofInt a + Int32.ofInt b = Int32.ofInt (a + b) := (Int32.ofInt_add a b).symm
theorem i_sub (a b : Int) : Int32.ofInt a - Int32.ofInt b = Int32.ofInt (a - b) := (Int32.ofInt_sub a b).symm
theorem i_mul (a b : Int) : Int32.ofInt a * Int32.ofInt b = Int32.ofInt (a * b) := (Int32.ofInt_mul a b).symm
theorem i_neg (a : Int) : -Int32.ofInt a = Int32.ofInt (-a) := (Int32.ofInt_neg a).symm
theorem l_add (a b : Int) : Int64.ofInt a + Int64.ofInt b = Int64.ofInt (a + b) := (Int64.ofInt_add a b).symm
theorem l_sub (a b : Int) : Int64.ofInt a - Int64.ofInt b = Int64.ofInt (a - b) := (Int64.ofInt_sub a b).symm
theorem l_mul (a b : Int) : Int64.ofInt a * Int64.ofInt b = Int64.ofInt (a * b) := (Int64.ofInt_mul a b).symm
theorem l_neg (a : Int) : -Int64.ofInt a = Int64.ofInt (-a) := (Int64.ofInt_neg a).symm
theorem i_to {x : Int} (h : R32 x) : (Int32.ofInt x).toInt = x := Int32.toInt_ofInt_of_le h.1 h.2
theorem l_to {x : Int} (h : R64 x) : (Int64.ofInt x).toInt = x := Int64.toInt_ofInt_of_le h.1 h.2
theorem i_lt {a b : Int} (ha : R32 a) (hb : R32 b) : Int32.ofInt a < Int32.ofInt b ↔ a < b := by rw [Int32.lt_iff_toInt_lt, i_to ha, i_to hb]
theorem i_le {a b : Int} (ha : R32 a) (hb : R32 b) : Int32.ofInt a ≤ Int32.ofInt b ↔ a ≤ b := by rw [Int32.le_iff_toInt_le, i_to ha, i_to hb]
theorem i_eq {a b : Int} (ha : R32 a) (hb : R32 b) : Int32.ofInt a = Int32.ofInt b ↔ a = b := ⟨fun h => by rw [← i_to ha, ← i_to hb, h], fun h => by rw [h]⟩
theorem l_lt {a b : Int} (ha : R64 a) (hb : R64 b) : Int64.ofInt a < Int64.ofInt b ↔ a < b := by rw [Int64.lt_iff_toInt_lt, l_to ha, l_to hb]
theorem l_le {a b : Int} (ha : R64 a) (hb : R64 b) : Int64.ofInt a ≤ Int64.ofInt b ↔ a ≤ b := by rw [Int64.le_iff_toInt_le, l_to ha, l_to hb]
theorem l_eq {a b : Int} (ha : R64 a) (hb : R64 b) : Int64.ofInt a = Int64.ofInt b ↔ a = b := ⟨fun h => by rw [← l_to ha, ← l_to hb, h], fun h => by rw [h]⟩
theorem R32_0 : R32 0 := ⟨by decide, by decide⟩
theorem i_div {a b : Int} (ha : R32 a) (hb : R32 b) : Int32.ofInt a / Int32.ofInt b = Int32.ofInt (a.tdiv b) := by
  rw [← Int32.toInt_inj, Int32.toInt_div, i_to ha, i_to hb, Int32.toInt_ofInt]
theorem l_div {a b : Int} (ha : R64 a) (hb : R64 b) : Int64.ofInt a / Int64.ofInt b = Int64.ofInt (a.tdiv b) := by
  rw [← Int64.toInt_inj, Int64.toInt_div, l_to ha, l_to hb, Int64.toInt_ofInt]
theorem i_rem {a b : Int} (ha : R32 a) (hb : R32 b) : Int32.ofInt a - Int32.ofInt a / Int32.ofInt b * Int32.ofInt b = Int32.ofInt (a.tmod b) := by
  rw [i_div ha hb, i_mul, i_sub, Int.tmod_def, Int.mul_comm]
theorem l_rem {a b : Int} (ha : R64 a) (hb : R64 b) : Int64.ofInt a - Int64.ofInt a / Int64.ofInt b * Int64.ofInt b = Int64.ofInt (a.tmod b) := by
  rw [l_div ha hb, l_mul, l_sub, Int.tmod_def, Int.mul_comm]
theorem i_i2l {a : Int} (ha : R32 a) : (Int32.ofInt a).toInt64 = Int64.ofInt a := by
  rw [← Int64.toInt_inj, Int32.toInt_toInt64, i_to ha, l_to ⟨by have := ha.1; omega, by have := ha.2; omega⟩]
theorem i_l2i (a : Int) : (Int64.ofInt a).toInt32 = Int32.ofInt a := Int64.toInt32_ofInt
theorem i_ix {i : Int} {n : Nat} (h0 : 0 ≤ i) (h1 : i < n) (hn : n < 2147483648) : vp_in (Int32.ofInt i) n ∧ (Int32.ofInt i).toNatClampNeg = i.toNat := by
  have hr : R32 i := ⟨by omega, by omega⟩
  exact ⟨vp_in_iff.mpr (by rw [i_to hr]; exact ⟨h0, h1⟩), by show (Int32.ofInt i).toInt.toNat = _; rw [i_to hr]⟩
theorem i_and31 {x : Int} (h : R32 x) : Int32.ofInt x &&& 31 = Int32.ofInt (x % 32) := by
  rw [pk_and (Int32.ofInt x) (m := 31) 5 (by decide)]
  have e1 : (Int32.ofInt x).toBitVec.toNat = (x % 4294967296).toNat := by
    show (BitVec.ofInt 32 x).toNat = _
    rw [BitVec.toNat_ofInt]
    rfl
  rw [e1]
  have e2 : (((x % 4294967296).toNat % 2 ^ 5 : Nat) : Int) = x % 32 := by
    have : (0 : Int) ≤ x % 4294967296 := by omega
    omega
  show Int32.ofNat _ = _
  rw [← e2]
  rfl
end
section
theorem T_iadd {M : MI} {pc : Nat} {ls st : List PV} {bg : Option (Nat × Nat)} {h : HS} {Q : Option PV → HS → Prop} {a b : Int} (hd : decode (miC M) pc = .ok (.iadd, 1)) (k : T M (pc + 1) ls (vI (a + b) :: st) bg h Q) : T M pc ls (vI b :: vI a :: st) bg h Q := by
  intro E p l e R s m args below meth c Z H locs cells slots la hC hR hH hS h1 h2 hl
  refine lv_iadd hC.1 hC.2.1 hd ?_
  rw [i_add]
  exact k E p l e R s m args below meth c Z H locs cells slots la hC hR hH hS h1 h2 hl
theorem T_isub {M : MI} {pc : Nat} {ls st : List PV} {bg : Option (Nat × Nat)} {h : HS} {Q : Option PV → HS → Prop} {a b : Int} (hd : decode (miC M) pc = .ok (.isub, 1)) (k : T M (pc + 1) ls (vI (a - b) :: st) bg h Q) : T M pc ls (vI b :: vI a :: st) bg h Q := by
  intro E p l e R s m args below meth c Z H locs cells slots la hC hR hH hS h1 h2 hl
  refine lv_isub hC.1 hC.2.1 hd ?_
  rw [i_sub]
  exact k E p l e R s m args below meth c Z H locs cells slots la hC hR hH hS h1 h2 hl
theorem T_imul {M : MI} {pc : Nat} {ls st : List PV} {bg : Option (Nat × Nat)} {h : HS} {Q : Option PV → HS → Prop} {a b : Int} (hd : decode (miC M) pc = .ok (.imul, 1)) (k : T M (pc + 1) ls (vI (a * b) :: st) bg h Q) : T M pc ls (vI b :: vI a :: st) bg h Q := by
  intro E p l e R s m args below meth c Z H locs cells slots la hC hR hH hS h1 h2 hl
  refine lv_imul hC.1 hC.2.1 hd ?_
  rw [i_mul]
  exact k E p l e R s m args below meth c Z H locs cells slots la hC hR hH hS h1 h2 hl
theorem T_ladd {M : MI} {pc : Nat} {ls st : List PV} {bg : Option (Nat × Nat)} {h : HS} {Q : Option PV → HS → Prop} {a b : Int} (hd : decode (miC M) pc = .ok (.ladd, 1)) (k : T M (pc + 1) ls (vL (a + b) :: st) bg h Q) : T M pc ls (vL b :: vL a :: st) bg h Q := by
  intro E p l e R s m args below meth c Z H locs cells slots la hC hR hH hS h1 h2 hl
  refine lv_ladd hC.1 hC.2.1 hd ?_
  rw [l_add]
  exact k E p l e R s m args below meth c Z H locs cells slots la hC hR hH hS h1 h2 hl
theorem T_lsub {M : MI} {pc : Nat} {ls st : List PV} {bg : Option (Nat × Nat)} {h : HS} {Q : Option PV → HS → Prop} {a b : Int} (hd : decode (miC M) pc = .ok (.lsub, 1)) (k : T M (pc + 1) ls (vL (a - b) :: st) bg h Q) : T M pc ls (vL b :: vL a :: st) bg h Q := by
  intro E p l e R s m args below meth c Z H locs cells slots la hC hR hH hS h1 h2 hl
  refine lv_lsub hC.1 hC.2.1 hd ?_
  rw [l_sub]
  exact k E p l e R s m args below meth c Z H locs cells slots la hC hR hH hS h1 h2 hl
theorem T_lmul {M : MI} {pc : Nat} {ls st : List PV} {bg : Option (Nat × Nat)} {h : HS} {Q : Option PV → HS → Prop} {a b : Int} (hd : decode (miC M) pc = .ok (.lmul, 1)) (k : T M (pc + 1) ls (vL (a * b) :: st) bg h Q) : T M pc ls (vL b :: vL a :: st) bg h Q := by
  intro E p l e R s m args below meth c Z H locs cells slots la hC hR hH hS h1 h2 hl
  refine lv_lmul hC.1 hC.2.1 hd ?_
  rw [l_mul]
  exact k E p l e R s m args below meth c Z H locs cells slots la hC hR hH hS h1 h2 hl
theorem T_ineg {M : MI} {pc : Nat} {ls st : List PV} {bg : Option (Nat × Nat)} {h : HS} {Q : Option PV → HS → Prop} {a : Int} (hd : decode (miC M) pc = .ok (.ineg, 1)) (k : T M (pc + 1) ls (vI (-a) :: st) bg h Q) : T M pc ls (vI a :: st) bg h Q := by
  intro E p l e R s m args below meth c Z H locs cells slots la hC hR hH hS h1 h2 hl
  refine lv_ineg hC.1 hC.2.1 hd ?_
  rw [i_neg]
  exact k E p l e R s m args below meth c Z H locs cells slots la hC hR hH hS h1 h2 hl
theorem T_lneg {M : MI} {pc : Nat} {ls st : List PV} {bg : Option (Nat × Nat)} {h : HS} {Q : Option PV → HS → Prop} {a : Int} (hd : decode (miC M) pc = .ok (.lneg, 1)) (k : T M (pc + 1) ls (vL (-a) :: st) bg h Q) : T M pc ls (vL a :: st) bg h Q := by
  intro E p l e R s m args below meth c Z H locs cells slots la hC hR hH hS h1 h2 hl
  refine lv_lneg hC.1 hC.2.1 hd ?_
  rw [l_neg]
  exact k E p l e R s m args below meth c Z H locs cells slots la hC hR hH hS h1 h2 hl
theorem T_idiv {M : MI} {pc : Nat} {ls st : List PV} {bg : Option (Nat × Nat)} {h : HS} {Q : Option PV → HS → Prop} {a b : Int} (hd : decode (miC M) pc = .ok (.idiv, 1)) (ha : R32 a) (hb : R32 b) (hn : b ≠ 0) (k : T M (pc + 1) ls (vI (a.tdiv b) :: st) bg h Q) : T M pc ls (vI b :: vI a :: st) bg h Q := by
  intro E p l e R s m args below meth c Z H locs cells slots la hC hR hH hS h1 h2 hl
  refine lv_idiv hC.1 hC.2.1 hd (fun q => hn ((i_eq hb (by decide)).mp q)) ?_
  rw [i_div ha hb]
  exact k E p l e R s m args below meth c Z H locs cells slots la hC hR hH hS h1 h2 hl
theorem T_irem {M : MI} {pc : Nat} {ls st : List PV} {bg : Option (Nat × Nat)} {h : HS} {Q : Option PV → HS → Prop} {a b : Int} (hd : decode (miC M) pc = .ok (.irem, 1)) (ha : R32 a) (hb : R32 b) (hn : b ≠ 0) (k : T M (pc + 1) ls (vI (a.tmod b) :: st) bg h Q) : T M pc ls (vI b :: vI a :: st) bg h Q := by
  intro E p l e R s m args below meth c Z H locs cells slots la hC hR hH hS h1 h2 hl
  refine lv_irem hC.1 hC.2.1 hd (fun q => hn ((i_eq hb (by decide)).mp q)) ?_
  rw [i_rem ha hb]
  exact k E p l e R s m args below meth c Z H locs cells slots la hC hR hH hS h1 h2 hl
theorem T_ldiv {M : MI} {pc : Nat} {ls st : List PV} {bg : Option (Nat × Nat)} {h : HS} {Q : Option PV → HS → Prop} {a b : Int} (hd : decode (miC M) pc = .ok (.ldiv, 1)) (ha : R64 a) (hb : R64 b) (hn : b ≠ 0) (k : T M (pc + 1) ls (vL (a.tdiv b) :: st) bg h Q) : T M pc ls (vL b :: vL a :: st) bg h Q := by
  intro E p l e R s m args below meth c Z H locs cells slots la hC hR hH hS h1 h2 hl
  refine lv_ldiv hC.1 hC.2.1 hd (fun q => hn ((l_eq hb (by decide)).mp q)) ?_
  rw [l_div ha hb]
  exact k E p l e R s m args below meth c Z H locs cells slots la hC hR hH hS h1 h2 hl
theorem T_lrem {M : MI} {pc : Nat} {ls st : List PV} {bg : Option (Nat × Nat)} {h : HS} {Q : Option PV → HS → Prop} {a b : Int} (hd : decode (miC M) pc = .ok (.lrem, 1)) (ha : R64 a) (hb : R64 b) (hn : b ≠ 0) (k : T M (pc + 1) ls (vL (a.tmod b) :: st) bg h Q) : T M pc ls (vL b :: vL a :: st) bg h Q := by
  intro E p l e R s m args below meth c Z H locs cells slots la hC hR hH hS h1 h2 hl
  refine lv_lrem hC.1 hC.2.1 hd (fun q => hn ((l_eq hb (by decide)).mp q)) ?_
  rw [l_rem ha hb]
  exact k E p l e R s m args below meth c Z H locs cells slots la hC hR hH hS h1 h2 hl
theorem T_i2l {M : MI} {pc : Nat} {ls st : List PV} {bg : Option (Nat × Nat)} {h : HS} {Q : Option PV → HS → Prop} {a : Int} (hd : decode (miC M) pc = .ok (.i2l, 1)) (ha : R32 a) (k : T M (pc + 1) ls (vL a :: st) bg h Q) : T M pc ls (vI a :: st) bg h Q := by
  intro E p l e R s m args below meth c Z H locs cells slots la hC hR hH hS h1 h2 hl
  exact lv_i2l hC.1 hC.2.1 hd (i_i2l ha) (k E p l e R s m args below meth c Z H locs cells slots la hC hR hH hS h1 h2 hl)
theorem T_l2i {M : MI} {pc : Nat} {ls st : List PV} {bg : Option (Nat × Nat)} {h : HS} {Q : Option PV → HS → Prop} {a : Int} (hd : decode (miC M) pc = .ok (.l2i, 1)) (k : T M (pc + 1) ls (vI a :: st) bg h Q) : T M pc ls (vL a :: st) bg h Q := by
  intro E p l e R s m args below meth c Z H locs cells slots la hC hR hH hS h1 h2 hl
  exact lv_l2i hC.1 hC.2.1 hd (i_l2i a) (k E p l e R s m args below meth c Z H locs cells slots la hC hR hH hS h1 h2 hl)
theorem T_iand31 {M : MI} {pc : Nat} {ls st : List PV} {bg : Option (Nat × Nat)} {h : HS} {Q : Option PV → HS → Prop} {a : Int} (hd : decode (miC M) pc = .ok (.iand, 1)) (ha : R32 a) (k : T M (pc + 1) ls (vI (a % 32) :: st) bg h Q) : T M pc ls (vI 31 :: vI a :: st) bg h Q := by
  intro E p l e R s m args below meth c Z H locs cells slots la hC hR hH hS h1 h2 hl
  refine lv_iand hC.1 hC.2.1 hd ?_
  rw [show Int32.ofInt 31 = 31 from rfl, i_and31 ha]
  exact k E p l e R s m args below meth c Z H locs cells slots la hC hR hH hS h1 h2 hl
theorem T_iconst {M : MI} {pc : Nat} {ls st : List PV} {bg : Option (Nat × Nat)} {h : HS} {Q : Option PV → HS → Prop} {n : Int} (hd : decode (miC M) pc = .ok (.iconst n, 1)) (k : T M (pc + 1) ls (vI n :: st) bg h Q) : T M pc ls st bg h Q := by
  intro E p l e R s m args below meth c Z H locs cells slots la hC hR hH hS h1 h2 hl
  exact lv_iconst hC.1 hC.2.1 hd rfl (k E p l e R s m args below meth c Z H locs cells slots la hC hR hH hS h1 h2 hl)
theorem T_bipush {M : MI} {pc : Nat} {ls st : List PV} {bg : Option (Nat × Nat)} {h : HS} {Q : Option PV → HS → Prop} {n : Int} (hd : decode (miC M) pc = .ok (.bipush n, 2)) (hn : (Int8.ofInt n).toInt32 = Int32.ofInt n) (k : T M (pc + 2) ls (vI n :: st) bg h Q) : T M pc ls st bg h Q := by
  intro E p l e R s m args below meth c Z H locs cells slots la hC hR hH hS h1 h2 hl
  exact lv_bipush hC.1 hC.2.1 hd hn (k E p l e R s m args below meth c Z H locs cells slots la hC hR hH hS h1 h2 hl)
theorem T_sipush {M : MI} {pc : Nat} {ls st : List PV} {bg : Option (Nat × Nat)} {h : HS} {Q : Option PV → HS → Prop} {n : Int} (hd : decode (miC M) pc = .ok (.sipush n, 3)) (hn : (Int16.ofInt n).toInt32 = Int32.ofInt n) (k : T M (pc + 3) ls (vI n :: st) bg h Q) : T M pc ls st bg h Q := by
  intro E p l e R s m args below meth c Z H locs cells slots la hC hR hH hS h1 h2 hl
  exact lv_sipush hC.1 hC.2.1 hd hn (k E p l e R s m args below meth c Z H locs cells slots la hC hR hH hS h1 h2 hl)
theorem T_lconst {M : MI} {pc : Nat} {ls st : List PV} {bg : Option (Nat × Nat)} {h : HS} {Q : Option PV → HS → Prop} {n : Fin 2} {x : Int} (hd : decode (miC M) pc = .ok (.lconst n, 1)) (hx : Int64.ofNat (n : Nat) = Int64.ofInt x) (k : T M (pc + 1) ls (vL x :: st) bg h Q) : T M pc ls st bg h Q := by
  intro E p l e R s m args below meth c Z H locs cells slots la hC hR hH hS h1 h2 hl
  exact lv_lconst hC.1 hC.2.1 hd hx (k E p l e R s m args below meth c Z H locs cells slots la hC hR hH hS h1 h2 hl)
theorem T_ldc {M : MI} {pc : Nat} {ls st : List PV} {bg : Option (Nat × Nat)} {h : HS} {Q : Option PV → HS → Prop} {i : Nat} {n : Int32} {x : Int} (hd : decode (miC M) pc = .ok (.ldc i, 2)) (hw : Cond.constant (miO M) i n ∈ TS) (hx : n = Int32.ofInt x) (k : T M (pc + 2) ls (vI x :: st) bg h Q) : T M pc ls st bg h Q := by
  intro E p l e R s m args below meth c Z H locs cells slots la hC hR hH hS h1 h2 hl
  subst hx
  exact lv_ldc hC.1 hC.2.1 hC.2.2.2.1 (hC.2.2.2.2.1 _ hw) hd (k E p l e R s m args below meth c Z H locs cells slots la hC hR hH hS h1 h2 hl)
theorem T_ldc2 {M : MI} {pc : Nat} {ls st : List PV} {bg : Option (Nat × Nat)} {h : HS} {Q : Option PV → HS → Prop} {i : Nat} {n : Int64} {x : Int} (hd : decode (miC M) pc = .ok (.ldc2_w i, 3)) (hw : Cond.constantLong (miO M) i n ∈ TS) (hx : n = Int64.ofInt x) (k : T M (pc + 3) ls (vL x :: st) bg h Q) : T M pc ls st bg h Q := by
  intro E p l e R s m args below meth c Z H locs cells slots la hC hR hH hS h1 h2 hl
  subst hx
  exact lv_ldc2 hC.1 hC.2.1 hC.2.2.2.1 (hC.2.2.2.2.1 _ hw) hd (k E p l e R s m args below meth c Z H locs cells slots la hC hR hH hS h1 h2 hl)
theorem T_dup {M : MI} {pc : Nat} {ls st : List PV} {bg : Option (Nat × Nat)} {h : HS} {Q : Option PV → HS → Prop} {v : PV} (hd : decode (miC M) pc = .ok (.dup, 1)) (hc : pcat v = 1) (k : T M (pc + 1) ls (v :: v :: st) bg h Q) : T M pc ls (v :: st) bg h Q := by
  intro E p l e R s m args below meth c Z H locs cells slots la hC hR hH hS h1 h2 hl
  exact lv_dup hC.1 hC.2.1 hd (by rw [real_cat]; exact hc) (k E p l e R s m args below meth c Z H locs cells slots la hC hR hH hS h1 h2 hl)
theorem T_dup2 {M : MI} {pc : Nat} {ls st : List PV} {bg : Option (Nat × Nat)} {h : HS} {Q : Option PV → HS → Prop} {v w : PV} (hd : decode (miC M) pc = .ok (.dup2, 1)) (hc : pcat v = 1) (hw : pcat w = 1) (k : T M (pc + 1) ls (v :: w :: v :: w :: st) bg h Q) : T M pc ls (v :: w :: st) bg h Q := by
  intro E p l e R s m args below meth c Z H locs cells slots la hC hR hH hS h1 h2 hl
  exact lv_dup2_11 hC.1 hC.2.1 hd (by rw [real_cat]; exact hc) (by rw [real_cat]; exact hw) (k E p l e R s m args below meth c Z H locs cells slots la hC hR hH hS h1 h2 hl)
theorem T_goto {M : MI} {pc : Nat} {ls st : List PV} {bg : Option (Nat × Nat)} {h : HS} {Q : Option PV → HS → Prop} {off : Int} {tgt : Nat} (hd : decode (miC M) pc = .ok (.goto off, 3)) (ht : (pc : Int) + off = (tgt : Int)) (k : T M tgt ls st bg h Q) : T M pc ls st bg h Q := by
  intro E p l e R s m args below meth c Z H locs cells slots la hC hR hH hS h1 h2 hl
  exact lv_goto hC.1 hC.2.1 hd ht (k E p l e R s m args below meth c Z H locs cells slots la hC hR hH hS h1 h2 hl)
theorem T_icmp_eq {M : MI} {pc : Nat} {ls st : List PV} {bg : Option (Nat × Nat)} {h : HS} {Q : Option PV → HS → Prop} {a b : Int} {off : Int} {tgt : Nat} (hd : decode (miC M) pc = .ok (.if_icmp .eq off, 3)) (ht : (pc : Int) + off = (tgt : Int)) (ha : R32 a) (hb : R32 b) (kt : a = b → T M tgt ls st bg h Q) (kf : ¬ a = b → T M (pc + 3) ls st bg h Q) : T M pc ls (vI b :: vI a :: st) bg h Q := by
  intro E p l e R s m args below meth c Z H locs cells slots la hC hR hH hS h1 h2 hl
  exact lv_icmp_eq hC.1 hC.2.1 hd ht (fun q => kt ((i_eq ha hb).mp q) E p l e R s m args below meth c Z H locs cells slots la hC hR hH hS h1 h2 hl) (fun q => kf (fun q2 => q ((i_eq ha hb).mpr q2)) E p l e R s m args below meth c Z H locs cells slots la hC hR hH hS h1 h2 hl)
theorem T_if_eq {M : MI} {pc : Nat} {ls st : List PV} {bg : Option (Nat × Nat)} {h : HS} {Q : Option PV → HS → Prop} {a : Int} {off : Int} {tgt : Nat} (hd : decode (miC M) pc = .ok (.ifCond .eq off, 3)) (ht : (pc : Int) + off = (tgt : Int)) (ha : R32 a) (kt : a = 0 → T M tgt ls st bg h Q) (kf : ¬ a = 0 → T M (pc + 3) ls st bg h Q) : T M pc ls (vI a :: st) bg h Q := by
  intro E p l e R s m args below meth c Z H locs cells slots la hC hR hH hS h1 h2 hl
  exact lv_if_eq hC.1 hC.2.1 hd ht (fun q => kt ((i_eq ha R32_0).mp q) E p l e R s m args below meth c Z H locs cells slots la hC hR hH hS h1 h2 hl) (fun q => kf (fun q2 => q ((i_eq ha R32_0).mpr q2)) E p l e R s m args below meth c Z H locs cells slots la hC hR hH hS h1 h2 hl)
theorem T_icmp_ne {M : MI} {pc : Nat} {ls st : List PV} {bg : Option (Nat × Nat)} {h : HS} {Q : Option PV → HS → Prop} {a b : Int} {off : Int} {tgt : Nat} (hd : decode (miC M) pc = .ok (.if_icmp .ne off, 3)) (ht : (pc : Int) + off = (tgt : Int)) (ha : R32 a) (hb : R32 b) (kt : ¬ a = b → T M tgt ls st bg h Q) (kf : a = b → T M (pc + 3) ls st bg h Q) : T M pc ls (vI b :: vI a :: st) bg h Q := by
  intro E p l e R s m args below meth c Z H locs cells slots la hC hR hH hS h1 h2 hl
  exact lv_icmp_ne hC.1 hC.2.1 hd ht (fun q => kt (fun q2 => q ((i_eq ha hb).mpr q2)) E p l e R s m args below meth c Z H locs cells slots la hC hR hH hS h1 h2 hl) (fun q => kf ((i_eq ha hb).mp q) E p l e R s m args below meth c Z H locs cells slots la hC hR hH hS h1 h2 hl)
theorem T_if_ne {M : MI} {pc : Nat} {ls st : List PV} {bg : Option (Nat × Nat)} {h : HS} {Q : Option PV → HS → Prop} {a : Int} {off : Int} {tgt : Nat} (hd : decode (miC M) pc = .ok (.ifCond .ne off, 3)) (ht : (pc : Int) + off = (tgt : Int)) (ha : R32 a) (kt : ¬ a = 0 → T M tgt ls st bg h Q) (kf : a = 0 → T M (pc + 3) ls st bg h Q) : T M pc ls (vI a :: st) bg h Q := by
  intro E p l e R s m args below meth c Z H locs cells slots la hC hR hH hS h1 h2 hl
  exact lv_if_ne hC.1 hC.2.1 hd ht (fun q => kt (fun q2 => q ((i_eq ha R32_0).mpr q2)) E p l e R s m args below meth c Z H locs cells slots la hC hR hH hS h1 h2 hl) (fun q => kf ((i_eq ha R32_0).mp q) E p l e R s m args below meth c Z H locs cells slots la hC hR hH hS h1 h2 hl)
theorem T_icmp_lt {M : MI} {pc : Nat} {ls st : List PV} {bg : Option (Nat × Nat)} {h : HS} {Q : Option PV → HS → Prop} {a b : Int} {off : Int} {tgt : Nat} (hd : decode (miC M) pc = .ok (.if_icmp .lt off, 3)) (ht : (pc : Int) + off = (tgt : Int)) (ha : R32 a) (hb : R32 b) (kt : a < b → T M tgt ls st bg h Q) (kf : ¬ a < b → T M (pc + 3) ls st bg h Q) : T M pc ls (vI b :: vI a :: st) bg h Q := by
  intro E p l e R s m args below meth c Z H locs cells slots la hC hR hH hS h1 h2 hl
  exact lv_icmp_lt hC.1 hC.2.1 hd ht (fun q => kt ((i_lt ha hb).mp q) E p l e R s m args below meth c Z H locs cells slots la hC hR hH hS h1 h2 hl) (fun q => kf (fun q2 => q ((i_lt ha hb).mpr q2)) E p l e R s m args below meth c Z H locs cells slots la hC hR hH hS h1 h2 hl)
theorem T_if_lt {M : MI} {pc : Nat} {ls st : List PV} {bg : Option (Nat × Nat)} {h : HS} {Q : Option PV → HS → Prop} {a : Int} {off : Int} {tgt : Nat} (hd : decode (miC M) pc = .ok (.ifCond .lt off, 3)) (ht : (pc : Int) + off = (tgt : Int)) (ha : R32 a) (kt : a < 0 → T M tgt ls st bg h Q) (kf : ¬ a < 0 → T M (pc + 3) ls st bg h Q) : T M pc ls (vI a :: st) bg h Q := by
  intro E p l e R s m args below meth c Z H locs cells slots la hC hR hH hS h1 h2 hl
  exact lv_if_lt hC.1 hC.2.1 hd ht (fun q => kt ((i_lt ha R32_0).mp q) E p l e R s m args below meth c Z H locs cells slots la hC hR hH hS h1 h2 hl) (fun q => kf (fun q2 => q ((i_lt ha R32_0).mpr q2)) E p l e R s m args below meth c Z H locs cells slots la hC hR hH hS h1 h2 hl)
theorem T_icmp_ge {M : MI} {pc : Nat} {ls st : List PV} {bg : Option (Nat × Nat)} {h : HS} {Q : Option PV → HS → Prop} {a b : Int} {off : Int} {tgt : Nat} (hd : decode (miC M) pc = .ok (.if_icmp .ge off, 3)) (ht : (pc : Int) + off = (tgt : Int)) (ha : R32 a) (hb : R32 b) (kt : b ≤ a → T M tgt ls st bg h Q) (kf : ¬ b ≤ a → T M (pc + 3) ls st bg h Q) : T M pc ls (vI b :: vI a :: st) bg h Q := by
  intro E p l e R s m args below meth c Z H locs cells slots la hC hR hH hS h1 h2 hl
  exact lv_icmp_ge hC.1 hC.2.1 hd ht (fun q => kt ((i_le hb ha).mp q) E p l e R s m args below meth c Z H locs cells slots la hC hR hH hS h1 h2 hl) (fun q => kf (fun q2 => q ((i_le hb ha).mpr q2)) E p l e R s m args below meth c Z H locs cells slots la hC hR hH hS h1 h2 hl)
theorem T_if_ge {M : MI} {pc : Nat} {ls st : List PV} {bg : Option (Nat × Nat)} {h : HS} {Q : Option PV → HS → Prop} {a : Int} {off : Int} {tgt : Nat} (hd : decode (miC M) pc = .ok (.ifCond .ge off, 3)) (ht : (pc : Int) + off = (tgt : Int)) (ha : R32 a) (kt : 0 ≤ a → T M tgt ls st bg h Q) (kf : ¬ 0 ≤ a → T M (pc + 3) ls st bg h Q) : T M pc ls (vI a :: st) bg h Q := by
  intro E p l e R s m args below meth c Z H locs cells slots la hC hR hH hS h1 h2 hl
  exact lv_if_ge hC.1 hC.2.1 hd ht (fun q => kt ((i_le R32_0 ha).mp q) E p l e R s m args below meth c Z H locs cells slots la hC hR hH hS h1 h2 hl) (fun q => kf (fun q2 => q ((i_le R32_0 ha).mpr q2)) E p l e R s m args below meth c Z H locs cells slots la hC hR hH hS h1 h2 hl)
theorem T_icmp_gt {M : MI} {pc : Nat} {ls st : List PV} {bg : Option (Nat × Nat)} {h : HS} {Q : Option PV → HS → Prop} {a b : Int} {off : Int} {tgt : Nat} (hd : decode (miC M) pc = .ok (.if_icmp .gt off, 3)) (ht : (pc : Int) + off = (tgt : Int)) (ha : R32 a) (hb : R32 b) (kt : b < a → T M tgt ls st bg h Q) (kf : ¬ b < a → T M (pc + 3) ls st bg h Q) : T M pc ls (vI b :: vI a :: st) bg h Q := by
  intro E p l e R s m args below meth c Z H locs cells slots la hC hR hH hS h1 h2 hl
  exact lv_icmp_gt hC.1 hC.2.1 hd ht (fun q => kt ((i_lt hb ha).mp q) E p l e R s m args below meth c Z H locs cells slots la hC hR hH hS h1 h2 hl) (fun q => kf (fun q2 => q ((i_lt hb ha).mpr q2)) E p l e R s m args below meth c Z H locs cells slots la hC hR hH hS h1 h2 hl)
theorem T_if_gt {M : MI} {pc : Nat} {ls st : List PV} {bg : Option (Nat × Nat)} {h : HS} {Q : Option PV → HS → Prop} {a : Int} {off : Int} {tgt : Nat} (hd : decode (miC M) pc = .ok (.ifCond .gt off, 3)) (ht : (pc : Int) + off = (tgt : Int)) (ha : R32 a) (kt : 0 < a → T M tgt ls st bg h Q) (kf : ¬ 0 < a → T M (pc + 3) ls st bg h Q) : T M pc ls (vI a :: st) bg h Q := by
  intro E p l e R s m args below meth c Z H locs cells slots la hC hR hH hS h1 h2 hl
  exact lv_if_gt hC.1 hC.2.1 hd ht (fun q => kt ((i_lt R32_0 ha).mp q) E p l e R s m args below meth c Z H locs cells slots la hC hR hH hS h1 h2 hl) (fun q => kf (fun q2 => q ((i_lt R32_0 ha).mpr q2)) E p l e R s m args below meth c Z H locs cells slots la hC hR hH hS h1 h2 hl)
theorem T_icmp_le {M : MI} {pc : Nat} {ls st : List PV} {bg : Option (Nat × Nat)} {h : HS} {Q : Option PV → HS → Prop} {a b : Int} {off : Int} {tgt : Nat} (hd : decode (miC M) pc = .ok (.if_icmp .le off, 3)) (ht : (pc : Int) + off = (tgt : Int)) (ha : R32 a) (hb : R32 b) (kt : a ≤ b → T M tgt ls st bg h Q) (kf : ¬ a ≤ b → T M (pc + 3) ls st bg h Q) : T M pc ls (vI b :: vI a :: st) bg h Q := by
  intro E p l e R s m args below meth c Z H locs cells slots la hC hR hH hS h1 h2 hl
  exact lv_icmp_le hC.1 hC.2.1 hd ht (fun q => kt ((i_le ha hb).mp q) E p l e R s m args below meth c Z H locs cells slots la hC hR hH hS h1 h2 hl) (fun q => kf (fun q2 => q ((i_le ha hb).mpr q2)) E p l e R s m args below meth c Z H locs cells slots la hC hR hH hS h1 h2 hl)
theorem T_if_le {M : MI} {pc : Nat} {ls st : List PV} {bg : Option (Nat × Nat)} {h : HS} {Q : Option PV → HS → Prop} {a : Int} {off : Int} {tgt : Nat} (hd : decode (miC M) pc = .ok (.ifCond .le off, 3)) (ht : (pc : Int) + off = (tgt : Int)) (ha : R32 a) (kt : a ≤ 0 → T M tgt ls st bg h Q) (kf : ¬ a ≤ 0 → T M (pc + 3) ls st bg h Q) : T M pc ls (vI a :: st) bg h Q := by
  intro E p l e R s m args below meth c Z H locs cells slots la hC hR hH hS h1 h2 hl
  exact lv_if_le hC.1 hC.2.1 hd ht (fun q => kt ((i_le ha R32_0).mp q) E p l e R s m args below meth c Z H locs cells slots la hC hR hH hS h1 h2 hl) (fun q => kf (fun q2 => q ((i_le ha R32_0).mpr q2)) E p l e R s m args below meth c Z H locs cells slots la hC hR hH hS h1 h2 hl)
theorem T_lcmp {M : MI} {pc : Nat} {ls st : List PV} {bg : Option (Nat × Nat)} {h : HS} {Q : Option PV → HS → Prop} {a b : Int} (hd : decode (miC M) pc = .ok (.lcmp, 1)) (ha : R64 a) (hb : R64 b) (k : T M (pc + 1) ls (vI (if b < a then 1 else if a = b then 0 else -1) :: st) bg h Q) : T M pc ls (vL b :: vL a :: st) bg h Q := by
  intro E p l e R s m args below meth c Z H locs cells slots la hC hR hH hS h1 h2 hl
  refine W.lcmp hC.1 hC.2.1 hd ?_
  have e9 : lg_cmp (Int64.ofInt a) (Int64.ofInt b) = Int32.ofInt (if b < a then 1 else if a = b then 0 else -1) := by
    unfold lg_cmp
    by_cases h3 : b < a
    · rw [if_pos ((l_lt hb ha).mpr h3), if_pos h3]; rfl
    · rw [if_neg (fun q => h3 ((l_lt hb ha).mp q)), if_neg h3]
      by_cases h4 : a = b
      · rw [if_pos ((l_eq ha hb).mpr h4), if_pos h4]; rfl
      · rw [if_neg (fun q => h4 ((l_eq ha hb).mp q)), if_neg h4]; rfl
  rw [e9]
  exact k E p l e R s m args below meth c Z H locs cells slots la hC hR hH hS h1 h2 hl
theorem T_tableIn {M : MI} {pc : Nat} {ls st : List PV} {bg : Option (Nat × Nat)} {h : HS} {Q : Option PV → HS → Prop} {x : Int} {dflt lo hi : Int} {offs : Array Int} {len : Nat} {off : Int} {tgt : Nat} (hd : decode (miC M) pc = .ok (.tableswitch dflt lo hi offs, len)) (hx : R32 x) (q1 : lo ≤ x) (q2 : x ≤ hi) (ho : offs[(x - lo).toNat]? = some off) (ht : (pc : Int) + off = (tgt : Int)) (k : T M tgt ls st bg h Q) : T M pc ls (vI x :: st) bg h Q := by
  intro E p l e R s m args below meth c Z H locs cells slots la hC hR hH hS h1 h2 hl
  exact lv_tableIn hC.1 hC.2.1 hd (by rw [i_to hx]; omega) (by rw [i_to hx]; omega) (by rw [i_to hx]; exact ho) ht (k E p l e R s m args below meth c Z H locs cells slots la hC hR hH hS h1 h2 hl)
theorem T_tableOut {M : MI} {pc : Nat} {ls st : List PV} {bg : Option (Nat × Nat)} {h : HS} {Q : Option PV → HS → Prop} {x : Int} {dflt lo hi : Int} {offs : Array Int} {len : Nat} {tgt : Nat} (hd : decode (miC M) pc = .ok (.tableswitch dflt lo hi offs, len)) (hx : R32 x) (q1 : x < lo ∨ hi < x) (ht : (pc : Int) + dflt = (tgt : Int)) (k : T M tgt ls st bg h Q) : T M pc ls (vI x :: st) bg h Q := by
  intro E p l e R s m args below meth c Z H locs cells slots la hC hR hH hS h1 h2 hl
  exact lv_tableOut hC.1 hC.2.1 hd (by rw [i_to hx]; exact q1) ht (k E p l e R s m args below meth c Z H locs cells slots la hC hR hH hS h1 h2 hl)
theorem lvl_mem (E : En) : ∀ (ls : List PV) (j i : Nat) (v : PV), ls[i]? = some v → v ≠ vU → (j + i, real E v) ∈ lvl E j ls
  | [], _, _, _, h, _ => by simp at h
  | w :: ls, j, 0, v, h, hv => by
    have e : w = v := by simpa using h
    subst e
    rcases w with x | x | x | x
    · simp [lvl]
    · simp [lvl]
    · simp [lvl]
    · cases x
      · exact absurd rfl hv
      · simp [lvl]
  | w :: ls, j, i + 1, v, h, hv => by
    have h2 : ls[i]? = some v := by simpa using h
    have ih := lvl_mem E ls (j + 1) i v h2 hv
    rw [show j + 1 + i = j + (i + 1) by omega] at ih
    rcases w with x | x | x | x
    · exact List.mem_cons_of_mem _ ih
    · exact List.mem_cons_of_mem _ ih
    · exact List.mem_cons_of_mem _ ih
    · cases x
      · exact ih
      · exact List.mem_cons_of_mem _ ih
theorem lvl_inv (E : En) : ∀ (ls : List PV) (j : Nat) (q : Nat × Value), q ∈ lvl E j ls → ∃ (i : Nat) (v : PV), ls[i]? = some v ∧ v ≠ vU ∧ q = (j + i, real E v)
  | [], _, _, h => by simp [lvl] at h
  | w :: ls, j, q, h => by
    have key : ∀ q, q ∈ lvl E (j + 1) ls → ∃ (i : Nat) (v : PV), (w :: ls)[i]? = some v ∧ v ≠ vU ∧ q = (j + i, real E v) := by
      intro q hq
      obtain ⟨i, v, a, b, c⟩ := lvl_inv E ls (j + 1) q hq
      exact ⟨i + 1, v, by simpa using a, b, by rw [c, show j + 1 + i = j + (i + 1) by omega]⟩
    have key2 : w ≠ vU → q = (j, real E w) ∨ q ∈ lvl E (j + 1) ls → ∃ (i : Nat) (v : PV), (w :: ls)[i]? = some v ∧ v ≠ vU ∧ q = (j + i, real E v) := by
      intro hw hq
      rcases hq with hq | hq
      · exact ⟨0, w, rfl, hw, hq⟩
      · exact key q hq
    rcases w with x | x | x | x
    · exact key2 (fun e => by cases e) (List.mem_cons.mp h)
    · exact key2 (fun e => by cases e) (List.mem_cons.mp h)
    · exact key2 (fun e => by cases e) (List.mem_cons.mp h)
    · cases x
      · exact key q h
      · exact key2 (fun e => by cases e) (List.mem_cons.mp h)
theorem lv_mono {la : Array Slot} {n : Nat} {l l' : List (Nat × Value)} (h : lv_has la n l) (hs : ∀ q ∈ l', q ∈ l) : lv_has la n l' := ⟨h.1, h.2.1, fun q hq => h.2.2 q (hs q hq)⟩
theorem lvl_get {E : En} {la : Array Slot} {n : Nat} {ls : List PV} (h : lv_has la n (lvl E 0 ls)) {i : Nat} {v : PV} (hi : ls[i]? = some v) (hv : v ≠ vU) : la[i]? = some (.val (real E v)) := by
  have := h.2.2 _ (lvl_mem E ls 0 i v hi hv)
  simpa using this
def okS (ls : List PV) (i : Nat) : Bool := match i with
  | 0 => true
  | k + 1 => match ls[k]? with
    | some (.inr (.inl _)) => false
    | _ => true
theorem okS_not {ls : List PV} {i k : Nat} {v : PV} (h : okS ls i = true) (hk : ls[k]? = some v) (hi : k + 1 = i) : pcat v ≠ 2 := by
  subst hi
  simp only [okS, hk] at h
  rcases v with x | x | x | x
  · simp [pcat]
  · simp at h
  · simp [pcat]
  · simp [pcat]
theorem set_get {ls : List PV} {i k : Nat} {v w : PV} (h : (ls.set i v)[k]? = some w) : (k = i ∧ w = v) ∨ (k ≠ i ∧ ls[k]? = some w) := by
  by_cases e : k = i
  · subst e
    have hl : k < ls.length := by
      have := (List.getElem?_eq_some_iff.mp h).1
      simpa using this
    rw [List.getElem?_set_self hl] at h
    exact Or.inl ⟨rfl, (Option.some.inj h).symm⟩
  · rw [List.getElem?_set_ne (fun q => e q.symm)] at h
    exact Or.inr ⟨e, h⟩
theorem lvl_set1 {E : En} {ls : List PV} {i : Nat} {v : PV} (ho : okS ls i = true) : ∀ q ∈ lvl E 0 (ls.set i v), q ∈ (i, real E v) :: (lvl E 0 ls).filter (fun q => !(q.1 == i) && !(q.1 + 1 == i && q.2.category == 2)) := by
  intro q hq
  obtain ⟨k, w, h1, h2, rfl⟩ := lvl_inv E _ 0 q hq
  rcases set_get h1 with ⟨rfl, rfl⟩ | ⟨hk, h3⟩
  · simp
  · refine List.mem_cons_of_mem _ (List.mem_filter.mpr ⟨lvl_mem E ls 0 k w h3 h2, ?_⟩)
    have hc : 0 + k + 1 = i → pcat w ≠ 2 := fun e => okS_not ho h3 (by omega)
    simp only [real_cat, Bool.and_eq_true, Bool.not_eq_true', beq_eq_false_iff_ne, ne_eq, Bool.and_eq_false_iff]
    refine ⟨by omega, ?_⟩
    by_cases e : 0 + k + 1 = i
    · exact Or.inr (hc e)
    · exact Or.inl e
theorem lvl_set2 {E : En} {ls : List PV} {i : Nat} {x : Int} (ho : okS ls i = true) : ∀ q ∈ lvl E 0 ((ls.set i (vL x)).set (i + 1) vU), q ∈ (i, Value.long (Int64.ofInt x)) :: (lvl E 0 ls).filter (fun q => !(q.1 == i) && (!(q.1 == i + 1) && !(q.1 + 1 == i && q.2.category == 2))) := by
  intro q hq
  obtain ⟨k, w, h1, h2, rfl⟩ := lvl_inv E _ 0 q hq
  rcases set_get h1 with ⟨rfl, rfl⟩ | ⟨hk, h3⟩
  · exact absurd rfl h2
  · rcases set_get h3 with ⟨rfl, rfl⟩ | ⟨hk2, h4⟩
    · simp [real]
    · refine List.mem_cons_of_mem _ (List.mem_filter.mpr ⟨lvl_mem E ls 0 k w h4 h2, ?_⟩)
      have hc : 0 + k + 1 = i → pcat w ≠ 2 := fun e => okS_not ho h4 (by omega)
      simp only [real_cat, Bool.and_eq_true, Bool.not_eq_true', beq_eq_false_iff_ne, ne_eq, Bool.and_eq_false_iff]
      refine ⟨by omega, by omega, ?_⟩
      by_cases e : 0 + k + 1 = i
      · exact Or.inr (hc e)
      · exact Or.inl e
theorem T_iload_n {M : MI} {pc : Nat} {ls st : List PV} {bg : Option (Nat × Nat)} {h : HS} {Q : Option PV → HS → Prop} {k : Fin 4} {x : Int} (hd : decode (miC M) pc = .ok (.iload_n k, 1)) (hi : ls[(k : Nat)]? = some (vI x)) (kk : T M (pc + 1) ls (vI x :: st) bg h Q) : T M pc ls st bg h Q := by
  intro E p l e R s m args below meth c Z H locs cells slots la hC hR hH hS h1 h2 hl
  exact lv_iload_n hC.1 hC.2.1 hd rfl (lvl_get hl hi (fun q => by cases q)) (kk E p l e R s m args below meth c Z H locs cells slots la hC hR hH hS h1 h2 hl)
theorem T_iload {M : MI} {pc : Nat} {ls st : List PV} {bg : Option (Nat × Nat)} {h : HS} {Q : Option PV → HS → Prop} {i : Nat} {x : Int} (hd : decode (miC M) pc = .ok (.iload i, 2)) (hi : ls[i]? = some (vI x)) (kk : T M (pc + 2) ls (vI x :: st) bg h Q) : T M pc ls st bg h Q := by
  intro E p l e R s m args below meth c Z H locs cells slots la hC hR hH hS h1 h2 hl
  exact lv_iload hC.1 hC.2.1 hd (lvl_get hl hi (fun q => by cases q)) (kk E p l e R s m args below meth c Z H locs cells slots la hC hR hH hS h1 h2 hl)
theorem T_lload_n {M : MI} {pc : Nat} {ls st : List PV} {bg : Option (Nat × Nat)} {h : HS} {Q : Option PV → HS → Prop} {k : Fin 4} {x : Int} (hd : decode (miC M) pc = .ok (.lload_n k, 1)) (hi : ls[(k : Nat)]? = some (vL x)) (kk : T M (pc + 1) ls (vL x :: st) bg h Q) : T M pc ls st bg h Q := by
  intro E p l e R s m args below meth c Z H locs cells slots la hC hR hH hS h1 h2 hl
  exact lv_lload_n hC.1 hC.2.1 hd rfl (lvl_get hl hi (fun q => by cases q)) (kk E p l e R s m args below meth c Z H locs cells slots la hC hR hH hS h1 h2 hl)
theorem T_lload {M : MI} {pc : Nat} {ls st : List PV} {bg : Option (Nat × Nat)} {h : HS} {Q : Option PV → HS → Prop} {i : Nat} {x : Int} (hd : decode (miC M) pc = .ok (.lload i, 2)) (hi : ls[i]? = some (vL x)) (kk : T M (pc + 2) ls (vL x :: st) bg h Q) : T M pc ls st bg h Q := by
  intro E p l e R s m args below meth c Z H locs cells slots la hC hR hH hS h1 h2 hl
  exact lv_lload hC.1 hC.2.1 hd (lvl_get hl hi (fun q => by cases q)) (kk E p l e R s m args below meth c Z H locs cells slots la hC hR hH hS h1 h2 hl)
theorem T_aload_n {M : MI} {pc : Nat} {ls st : List PV} {bg : Option (Nat × Nat)} {h : HS} {Q : Option PV → HS → Prop} {k : Fin 4} {x : Nat} (hd : decode (miC M) pc = .ok (.aload_n k, 1)) (hi : ls[(k : Nat)]? = some (vR x)) (kk : T M (pc + 1) ls (vR x :: st) bg h Q) : T M pc ls st bg h Q := by
  intro E p l e R s m args below meth c Z H locs cells slots la hC hR hH hS h1 h2 hl
  exact lv_aload_n hC.1 hC.2.1 hd rfl (lvl_get hl hi (fun q => by cases q)) (kk E p l e R s m args below meth c Z H locs cells slots la hC hR hH hS h1 h2 hl)
theorem T_aload {M : MI} {pc : Nat} {ls st : List PV} {bg : Option (Nat × Nat)} {h : HS} {Q : Option PV → HS → Prop} {i : Nat} {x : Nat} (hd : decode (miC M) pc = .ok (.aload i, 2)) (hi : ls[i]? = some (vR x)) (kk : T M (pc + 2) ls (vR x :: st) bg h Q) : T M pc ls st bg h Q := by
  intro E p l e R s m args below meth c Z H locs cells slots la hC hR hH hS h1 h2 hl
  exact lv_aload hC.1 hC.2.1 hd (lvl_get hl hi (fun q => by cases q)) (kk E p l e R s m args below meth c Z H locs cells slots la hC hR hH hS h1 h2 hl)
theorem T_sload_n {M : MI} {pc : Nat} {ls st : List PV} {bg : Option (Nat × Nat)} {h : HS} {Q : Option PV → HS → Prop} {k : Fin 4} (hd : decode (miC M) pc = .ok (.aload_n k, 1)) (hi : ls[(k : Nat)]? = some vS) (kk : T M (pc + 1) ls (vS :: st) bg h Q) : T M pc ls st bg h Q := by
  intro E p l e R s m args below meth c Z H locs cells slots la hC hR hH hS h1 h2 hl
  exact lv_aload_n hC.1 hC.2.1 hd rfl (lvl_get hl hi (fun q => by cases q)) (kk E p l e R s m args below meth c Z H locs cells slots la hC hR hH hS h1 h2 hl)
theorem T_istore_n {M : MI} {pc : Nat} {ls st : List PV} {bg : Option (Nat × Nat)} {h : HS} {Q : Option PV → HS → Prop} {k : Fin 4} {x : Int} {ls2 : List PV} (hd : decode (miC M) pc = .ok (.istore_n k, 1)) (hb : (k : Nat) < miL M) (ho : okS ls (k : Nat) = true) (hs : ls.set (k : Nat) (vI x) = ls2) (kk : T M (pc + 1) ls2 st bg h Q) : T M pc ls (vI x :: st) bg h Q := by
  intro E p l e R s m args below meth c Z H locs cells slots la hC hR hH hS h1 h2 hl
  subst hs
  exact lv_istore_n hC.1 hC.2.1 hd rfl hl hb rfl (fun la2 hl2 => kk E p l e R s m args below meth c Z H locs cells slots la2 hC hR hH hS h1 h2 (lv_mono hl2 (lvl_set1 ho)))
theorem T_istore {M : MI} {pc : Nat} {ls st : List PV} {bg : Option (Nat × Nat)} {h : HS} {Q : Option PV → HS → Prop} {i : Nat} {x : Int} {ls2 : List PV} (hd : decode (miC M) pc = .ok (.istore i, 2)) (hb : i < miL M) (ho : okS ls i = true) (hs : ls.set i (vI x) = ls2) (kk : T M (pc + 2) ls2 st bg h Q) : T M pc ls (vI x :: st) bg h Q := by
  intro E p l e R s m args below meth c Z H locs cells slots la hC hR hH hS h1 h2 hl
  subst hs
  exact lv_istore hC.1 hC.2.1 hd hl hb rfl (fun la2 hl2 => kk E p l e R s m args below meth c Z H locs cells slots la2 hC hR hH hS h1 h2 (lv_mono hl2 (lvl_set1 ho)))
theorem T_astore_n {M : MI} {pc : Nat} {ls st : List PV} {bg : Option (Nat × Nat)} {h : HS} {Q : Option PV → HS → Prop} {k : Fin 4} {x : Nat} {ls2 : List PV} (hd : decode (miC M) pc = .ok (.astore_n k, 1)) (hb : (k : Nat) < miL M) (ho : okS ls (k : Nat) = true) (hs : ls.set (k : Nat) (vR x) = ls2) (kk : T M (pc + 1) ls2 st bg h Q) : T M pc ls (vR x :: st) bg h Q := by
  intro E p l e R s m args below meth c Z H locs cells slots la hC hR hH hS h1 h2 hl
  subst hs
  exact lv_astore_n hC.1 hC.2.1 hd rfl hl hb rfl (fun la2 hl2 => kk E p l e R s m args below meth c Z H locs cells slots la2 hC hR hH hS h1 h2 (lv_mono hl2 (lvl_set1 ho)))
theorem T_astore {M : MI} {pc : Nat} {ls st : List PV} {bg : Option (Nat × Nat)} {h : HS} {Q : Option PV → HS → Prop} {i : Nat} {x : Nat} {ls2 : List PV} (hd : decode (miC M) pc = .ok (.astore i, 2)) (hb : i < miL M) (ho : okS ls i = true) (hs : ls.set i (vR x) = ls2) (kk : T M (pc + 2) ls2 st bg h Q) : T M pc ls (vR x :: st) bg h Q := by
  intro E p l e R s m args below meth c Z H locs cells slots la hC hR hH hS h1 h2 hl
  subst hs
  exact lv_astore hC.1 hC.2.1 hd hl hb rfl (fun la2 hl2 => kk E p l e R s m args below meth c Z H locs cells slots la2 hC hR hH hS h1 h2 (lv_mono hl2 (lvl_set1 ho)))
theorem T_lstore_n {M : MI} {pc : Nat} {ls st : List PV} {bg : Option (Nat × Nat)} {h : HS} {Q : Option PV → HS → Prop} {k : Fin 4} {x : Int} {ls2 : List PV} (hd : decode (miC M) pc = .ok (.lstore_n k, 1)) (hb : (k : Nat) + 1 < miL M) (ho : okS ls (k : Nat) = true) (hs : (ls.set (k : Nat) (vL x)).set ((k : Nat) + 1) vU = ls2) (kk : T M (pc + 1) ls2 st bg h Q) : T M pc ls (vL x :: st) bg h Q := by
  intro E p l e R s m args below meth c Z H locs cells slots la hC hR hH hS h1 h2 hl
  subst hs
  exact lv_lstore_n hC.1 hC.2.1 hd rfl hl hb rfl (fun la2 hl2 => kk E p l e R s m args below meth c Z H locs cells slots la2 hC hR hH hS h1 h2 (lv_mono hl2 (lvl_set2 ho)))
theorem T_lstore {M : MI} {pc : Nat} {ls st : List PV} {bg : Option (Nat × Nat)} {h : HS} {Q : Option PV → HS → Prop} {i : Nat} {x : Int} {ls2 : List PV} (hd : decode (miC M) pc = .ok (.lstore i, 2)) (hb : i + 1 < miL M) (ho : okS ls i = true) (hs : (ls.set i (vL x)).set (i + 1) vU = ls2) (kk : T M (pc + 2) ls2 st bg h Q) : T M pc ls (vL x :: st) bg h Q := by
  intro E p l e R s m args below meth c Z H locs cells slots la hC hR hH hS h1 h2 hl
  subst hs
  exact lv_lstore hC.1 hC.2.1 hd hl hb rfl (fun la2 hl2 => kk E p l e R s m args below meth c Z H locs cells slots la2 hC hR hH hS h1 h2 (lv_mono hl2 (lvl_set2 ho)))
theorem T_iinc {M : MI} {pc : Nat} {ls st : List PV} {bg : Option (Nat × Nat)} {h : HS} {Q : Option PV → HS → Prop} {i : Nat} {n x : Int} {ls2 : List PV} (hd : decode (miC M) pc = .ok (.iinc i n, 3)) (hb : i < miL M) (hi : ls[i]? = some (vI x)) (ho : okS ls i = true) (hs : ls.set i (vI (x + n)) = ls2) (kk : T M (pc + 3) ls2 st bg h Q) : T M pc ls st bg h Q := by
  intro E p l e R s m args below meth c Z H locs cells slots la hC hR hH hS h1 h2 hl
  subst hs
  have hm := lvl_mem E ls 0 i (vI x) hi (fun q => by cases q)
  obtain ⟨j, hj⟩ := List.getElem?_of_mem hm
  refine lv_iinc (v := Int32.ofInt (x + n)) hC.1 hC.2.1 hd hl (k := j) (i := i) (x := Int32.ofInt x) (by rw [hj]; simp [real]) (i_add x n) hb rfl (fun la2 hl2 => kk E p l e R s m args below meth c Z H locs cells slots la2 hC hR hH hS h1 h2 (lv_mono hl2 (lvl_set1 (v := vI (x + n)) ho)))
end
section
/-! the rules that touch cells -/
def up (σ : Mem) (a i : Nat) (v : Int) : Mem := fun b j => if b = a ∧ j = i then v else σ b j
theorem world_set {E : En} {n : Nat} {sh : Nat → Nat × Nat} {σ σ' : Mem} {k : Nat} (hk : k < n) (ho : ∀ b, b ≠ k → σ' b = σ b) {e : va_E} (he : e = cellE E (sh k) (σ' k)) : (world E (n, sh, σ)).set k (enB E + k, e) = world E (n, sh, σ') := by
  subst he
  apply List.ext_getElem?
  intro j
  by_cases hj : j = k
  · subst hj
    rw [List.getElem?_set_self (by simpa [world] using hk), world_at E (n, sh, σ') hk]
  · rw [List.getElem?_set_ne (fun q => hj q.symm)]
    by_cases hn : j < n
    · rw [world_at E (n, sh, σ) hn, world_at E (n, sh, σ') hn]
      show some (enB E + j, cellE E (sh j) (σ j)) = some (enB E + j, cellE E (sh j) (σ' j))
      rw [ho j hj]
    · have h1 : (world E (n, sh, σ))[j]? = none := by simpa [world] using hn
      have h2 : (world E (n, sh, σ'))[j]? = none := by simpa [world] using hn
      rw [h1, h2]
theorem up_ne {σ : Mem} {a i : Nat} {v : Int} : ∀ b, b ≠ a → up σ a i v b = σ b := fun b hb => by
  funext j
  simp [up, hb]
theorem up_eq {σ : Mem} {a i : Nat} {v : Int} (j : Nat) : up σ a i v a j = if j = i then v else σ a j := by
  simp [up]
theorem cell_int {E : En} {kd : Nat × Nat} {f : Nat → Int} {n : Nat} (h : kd = (20, n)) : cellE E kd f = .inl (enA E 20, n, .inl (fun i => Int32.ofInt (f i))) := by subst h; simp [cellE]
theorem cell_bool {E : En} {kd : Nat × Nat} {f : Nat → Int} {n : Nat} (h : kd = (22, n)) : cellE E kd f = .inl (enA E 22, n, .inl (fun i => Int32.ofInt (f i))) := by subst h; simp [cellE]
theorem cell_long {E : En} {kd : Nat × Nat} {f : Nat → Int} {n : Nat} (h : kd = (21, n)) : cellE E kd f = .inl (enA E 21, n, .inr (.inl (fun i => Int64.ofInt (f i)))) := by subst h; simp [cellE]
theorem cell_track {E : En} {kd : Nat × Nat} {f : Nat → Int} {n : Nat} (h : kd = (23, n)) : cellE E kd f = .inl (enA E 23, n, .inr (.inr (.inr (.inr (fun i => rn E (f i)))))) := by subst h; simp [cellE]
theorem cell_place {E : En} {kd : Nat × Nat} {f : Nat → Int} {n : Nat} (h : kd = (24, n)) : cellE E kd f = .inl (enA E 24, n, .inr (.inr (.inr (.inr (fun i => rn E (f i)))))) := by subst h; simp [cellE]
theorem cell_obj {E : En} {kd : Nat × Nat} {f : Nat → Int} {c n : Nat} (h : kd = (c, n)) (hc : c < 20) : cellE E kd f = .inr (c, (List.range n).map (fun j => rv E (tyC c j) (f j))) := by
  subst h
  have h1 : ¬ (c = 20 ∨ c = 22) := by omega
  have h2 : ¬ c = 21 := by omega
  have h3 : ¬ (c = 23 ∨ c = 24) := by omega
  simp [cellE, h1, h2, h3]
/-- a field of a class: which class, which slot, its name's link in the class 'own' -/
def Fld (own : String) (idx c k n : Nat) (fin : Bool) : Prop := ∃ (C : String) (U : u_T), vwCl[c]? = some (C, U, n) ∧ c < 20 ∧ k < n ∧ (∀ w ∈ u_ws C U n, w ∈ TS) ∧ (∀ j, j < n → parseFieldDescriptor (U j).2.2.1 = some (tyC c j)) ∧ (∀ a, a < n → ∀ b, b < n → a ≠ b → (U a).2.1 ≠ (U b).2.1) ∧ Cond.fieldLink own idx (U k).1 (U k).2.1 (U k).2.2.1 ∈ TS ∧ (U k).1 = C ∧ (U k).2.2.2 = fin
section HEAP
variable {M : MI} {pc : Nat} {ls st : List PV} {bg : Option (Nat × Nat)} {n : Nat} {sh : Nat → Nat × Nat} {σ : Mem} {Q : Option PV → HS → Prop} {a : Nat}
theorem T_get {idx c k nf : Nat} {fin : Bool} {v : PV} (hd : decode (miC M) pc = .ok (.getfield idx, 3)) (hf : Fld (miO M) idx c k nf fin) (ha : a < n) (hs : sh a = (c, nf)) (hv : ∀ E : En, rv E (tyC c k) (σ a k) = real E v) (kk : T M (pc + 3) ls (v :: st) bg (n, sh, σ) Q) : T M pc ls (vR a :: st) bg (n, sh, σ) Q := by
  intro E p l e R s m args below meth c0 Z H locs cells slots la hC hR hH hS h1 h2 hl
  obtain ⟨C, U, f1, f2, f3, f4, f5, f6, f7, -, -⟩ := hf
  have hw := world_at E (n, sh, σ) ha
  rw [show cellE E (((n, sh, σ) : HS).2.1 a) (((n, sh, σ) : HS).2.2 a) = _ from cell_obj hs f2] at hw
  refine va_get (D := enD E) (cl := vwCl) (tys := tysE E) (ci := c) (v := real E v) hC.1 hC.2.1 hC.2.2.2.2.1 f4 hC.2.2.2.1 hC.2.2.2.2.2.2.2.2.1.1 hH.1 a hw f1 k f3 (hC.2.2.2.2.1 _ f7) (fun _ h9 => h9) ?_ hd (kk E p l e R s m args below meth c0 Z H locs cells slots la hC hR hH hS h1 h2 hl)
  rw [List.getElem?_map, List.getElem?_range f3, Option.map_some, hv E]
theorem T_getI {idx c k nf : Nat} {fin : Bool} (hd : decode (miC M) pc = .ok (.getfield idx, 3)) (hf : Fld (miO M) idx c k nf fin) (hty : tyC c k = .int ∨ tyC c k = .boolean) (ha : a < n) (hs : sh a = (c, nf)) (kk : T M (pc + 3) ls (vI (σ a k) :: st) bg (n, sh, σ) Q) : T M pc ls (vR a :: st) bg (n, sh, σ) Q :=
  T_get hd hf ha hs (fun E => by rcases hty with q | q <;> rw [q] <;> rfl) kk
theorem T_getJ {idx c k nf : Nat} {fin : Bool} (hd : decode (miC M) pc = .ok (.getfield idx, 3)) (hf : Fld (miO M) idx c k nf fin) (hty : tyC c k = .long) (ha : a < n) (hs : sh a = (c, nf)) (kk : T M (pc + 3) ls (vL (σ a k) :: st) bg (n, sh, σ) Q) : T M pc ls (vR a :: st) bg (n, sh, σ) Q :=
  T_get hd hf ha hs (fun E => by rw [hty]; rfl) kk
def isRefT : FieldType → Bool
  | .object _ => true
  | .array _ => true
  | _ => false
theorem rv_ref {E : En} {ty : FieldType} (h : isRefT ty = true) {x : Int} {r : Nat} (hx : x = (r : Int)) : rv E ty x = real E (vR r) := by
  subst hx
  have e : va_rf (rn E (r : Int)) = real E (vR r) := by
    have h0 : ¬ (r : Int) < 0 := by omega
    simp [rn, va_rf, real, h0]
  cases ty <;> first | exact e | cases h
theorem T_getR {idx c k nf : Nat} {fin : Bool} {r : Nat} (hd : decode (miC M) pc = .ok (.getfield idx, 3)) (hf : Fld (miO M) idx c k nf fin) (hty : isRefT (tyC c k) = true) (ha : a < n) (hs : sh a = (c, nf)) (hr : σ a k = (r : Int)) (kk : T M (pc + 3) ls (vR r :: st) bg (n, sh, σ) Q) : T M pc ls (vR a :: st) bg (n, sh, σ) Q :=
  T_get hd hf ha hs (fun E => rv_ref hty hr) kk
theorem T_put {idx c k nf : Nat} {fin : Bool} {v : PV} {x : Int} (hd : decode (miC M) pc = .ok (.putfield idx, 3)) (hf : Fld (miO M) idx c k nf fin) (hfin : fin = true → miI M = true ∧ vwCl[c]?.map (·.1) = some (miO M)) (ha : a < n) (hs : sh a = (c, nf)) (hv : ∀ E : En, rv E (tyC c k) x = real E v) (hn : ∀ E : En, narrow (tyC c k) (real E v) = real E v) (hfit : ∀ E : En, fits (tyC c k) (real E v) = true) (kk : T M (pc + 3) ls st bg (n, sh, up σ a k x) Q) : T M pc ls (v :: vR a :: st) bg (n, sh, σ) Q := by
  intro E p l e R s m args below meth c0 Z H locs cells slots la hC hR hH hS h1 h2 hl
  obtain ⟨C, U, f1, f2, f3, f4, f5, f6, f7, f8, f9⟩ := hf
  have hts := hC.2.2.2.2.1
  have hown := hC.2.2.2.1
  have hK := hC.2.2.2.2.2.2.2.2.1.1
  have hw := world_at E (n, sh, σ) ha
  rw [show cellE E (((n, sh, σ) : HS).2.1 a) (((n, sh, σ) : HS).2.2 a) = _ from cell_obj hs f2] at hw
  have hap := va_apart (own := miO M) hts f4 (tyC c) f5 f6 hK f1
  obtain ⟨r, g1, cell, q1, q2, q3, q4⟩ := hH.1 a _ hw
  have hr : r = (C, U, nf) := Option.some.inj (g1.symm.trans f1)
  subst hr
  obtain ⟨hSl, hfc, kC, hkC, hkind⟩ := hK.1 c _ f1
  obtain ⟨cf, kf, fi, f, hi, hsl⟩ := hSl k f3
  have hlay := hts _ (f4 _ (u_in_lay f3))
  have hst := (u_facts hfc hkC (u_lays hts f4 f3) hi).1
  have fin' : ∀ H' : Heap, H'[enB E + a]? = some (cell.setSlot f.slot (real E v)) → H'.size = H.size → (∀ q, q ≠ enB E + a → H'[q]? = H[q]?) → W p l e R s m args below meth c0 H' (locs ++ [⟨enB E + a, f.slot⟩]) cells slots Z (F0 m (pc + 3) la (st.map (real E))) := by
    intro H' e1 e2 e3
    rw [hsl] at e1
    have hl9 : k < ((List.range nf).map (fun j => rv E (tyC c j) (σ a j))).length := by simpa using f3
    have hPn := hH.1.set (world_D E (n, sh, σ)) hw (H1 := H') (e := .inr (c, ((List.range nf).map (fun j => rv E (tyC c j) (σ a j))).set k (real E v))) ⟨_, f1, t_OB.to (V := updV (vp_V ((List.range nf).map (fun j => rv E (tyC c j) (σ a j)))) k (real E v)) ⟨_, e1, q2, q3, t_set q4 hap f3 (real E v)⟩ (fun j _ => vp_updV_set hl9 (real E v) j)⟩ e3
    rw [world_set (σ' := up σ a k x) ha up_ne (by
      rw [cell_obj hs f2]
      congr 2
      apply List.ext_getElem?
      intro j
      by_cases hj : j = k
      · subst hj
        rw [List.getElem?_set_self hl9]
        simp [f3, up_eq, hv E]
      · rw [List.getElem?_set_ne (fun q => hj q.symm)]
        by_cases hjn : j < nf
        · simp [hjn, up_eq, hj]
        · simp [hjn])] at hPn
    exact kk E p l e R s m args below meth c0 Z H' _ cells slots la hC hR ⟨hPn, fun q => by rw [e2]; exact hH.2 q⟩ (hS.put e2 e3 (Nat.le_add_right _ _)) h1 h2 hl
  cases fin with
  | false =>
    unfold u_lay at hlay
    rw [if_neg (by rw [f9]; decide)] at hlay
    exact W.putK hC.1 hC.2.1 (f := f) ⟨hown, hts _ f7, ⟨_, _, _, hi⟩, hst⟩ (by rw [q2]; exact u_store hfc hkC hkind hlay hi (f5 k f3) (hn E) (hfit E)) q1 q3 (by rw [hsl]; exact k2_hasslot (q4 k f3)) rfl rfl hd fin'
  | true =>
    obtain ⟨w1, w2⟩ := hfin rfl
    unfold u_lay at hlay
    rw [if_pos f9] at hlay
    have hco : C = miO M := by rw [f1] at w2; exact Option.some.inj w2
    have hcf : m.cls = cf := by
      obtain ⟨_, _, c', _, _, _, -, -, hf', -, -, -, hown2, -⟩ := Cond.laysFinal_spec hlay
      have e1 : c' = cf := by have := hi.symm.trans hf'; simp at this; exact this.1.symm
      rw [f8, hco] at hown2
      rw [← e1]; exact Option.some.inj (hown.symm.trans hown2)
    exact W.putFinK hC.1 hC.2.1 hown (hts _ f7) hi hst hcf (hC.2.2.2.2.2.1 w1) (by rw [q2]; exact u_fits hfc hkC hkind (Or.inr hlay) hi (f5 k f3) (hn E) (hfit E)) q1 q3 (by rw [hsl]; exact k2_hasslot (q4 k f3)) rfl rfl hd fin'
theorem T_putI {idx c k nf : Nat} {x : Int} (hd : decode (miC M) pc = .ok (.putfield idx, 3)) (hf : Fld (miO M) idx c k nf false) (hty : tyC c k = .int) (ha : a < n) (hs : sh a = (c, nf)) (kk : T M (pc + 3) ls st bg (n, sh, up σ a k x) Q) : T M pc ls (vI x :: vR a :: st) bg (n, sh, σ) Q :=
  T_put hd hf (fun q => by cases q) ha hs (fun E => by rw [hty]; rfl) (fun E => by rw [hty]; rfl) (fun E => by rw [hty]; rfl) kk
theorem T_putZ {idx c k nf : Nat} {x : Int} (hd : decode (miC M) pc = .ok (.putfield idx, 3)) (hf : Fld (miO M) idx c k nf false) (hty : tyC c k = .boolean) (hx : x = 0 ∨ x = 1) (ha : a < n) (hs : sh a = (c, nf)) (kk : T M (pc + 3) ls st bg (n, sh, up σ a k x) Q) : T M pc ls (vI x :: vR a :: st) bg (n, sh, σ) Q :=
  T_put hd hf (fun q => by cases q) ha hs (fun E => by rw [hty]; rfl) (fun E => by rw [hty]; rcases hx with rfl | rfl <;> rfl) (fun E => by rw [hty]; rcases hx with rfl | rfl <;> rfl) kk
theorem T_putJ {idx c k nf : Nat} {x : Int} (hd : decode (miC M) pc = .ok (.putfield idx, 3)) (hf : Fld (miO M) idx c k nf false) (hty : tyC c k = .long) (ha : a < n) (hs : sh a = (c, nf)) (kk : T M (pc + 3) ls st bg (n, sh, up σ a k x) Q) : T M pc ls (vL x :: vR a :: st) bg (n, sh, σ) Q :=
  T_put hd hf (fun q => by cases q) ha hs (fun E => by rw [hty]; rfl) (fun E => by rw [hty]; rfl) (fun E => by rw [hty]; rfl) kk
theorem T_putR {idx c k nf r : Nat} {fin : Bool} (hd : decode (miC M) pc = .ok (.putfield idx, 3)) (hf : Fld (miO M) idx c k nf fin) (hty : isRefT (tyC c k) = true) (hfin : fin = true → miI M = true ∧ vwCl[c]?.map (·.1) = some (miO M)) (ha : a < n) (hs : sh a = (c, nf)) (kk : T M (pc + 3) ls st bg (n, sh, up σ a k r) Q) : T M pc ls (vR r :: vR a :: st) bg (n, sh, σ) Q :=
  T_put hd hf hfin ha hs (fun E => rv_ref hty rfl) (fun E => by cases h9 : tyC c k <;> first | rfl | (rw [h9] at hty; cases hty)) (fun E => by cases h9 : tyC c k <;> first | rfl | (rw [h9] at hty; cases hty)) kk
/-! arrays -/
theorem T_iald {len : Nat} {i : Int} (hd : decode (miC M) pc = .ok (.iaload, 1)) (ha : a < n) (hs : sh a = (20, len)) (hln : len < 2147483648) (i0 : 0 ≤ i) (i1 : i < len) (kk : T M (pc + 1) ls (vI (σ a i.toNat) :: st) bg (n, sh, σ) Q) : T M pc ls (vI i :: vR a :: st) bg (n, sh, σ) Q := by
  intro E p l e R s m args below meth c Z H locs cells slots la hC hR hH hS h1 h2 hl
  have hw := world_at E (n, sh, σ) ha
  rw [show cellE E (((n, sh, σ) : HS).2.1 a) (((n, sh, σ) : HS).2.2 a) = _ from cell_int hs] at hw
  obtain ⟨x1, x2⟩ := i_ix i0 i1 hln
  refine va_iald (D := enD E) (cl := vwCl) (tys := tysE E) hC.1 hC.2.1 hC.2.2.2.2.2.2.2.2.1.1 hH.1 a 0 hw rfl x1 hd ?_
  rw [x2]
  exact kk E p l e R s m args below meth c Z H locs cells slots la hC hR hH hS h1 h2 hl
theorem T_zald {len : Nat} {i : Int} (hd : decode (miC M) pc = .ok (.baload, 1)) (ha : a < n) (hs : sh a = (22, len)) (hln : len < 2147483648) (i0 : 0 ≤ i) (i1 : i < len) (kk : T M (pc + 1) ls (vI (σ a i.toNat) :: st) bg (n, sh, σ) Q) : T M pc ls (vI i :: vR a :: st) bg (n, sh, σ) Q := by
  intro E p l e R s m args below meth c Z H locs cells slots la hC hR hH hS h1 h2 hl
  have hw := world_at E (n, sh, σ) ha
  rw [show cellE E (((n, sh, σ) : HS).2.1 a) (((n, sh, σ) : HS).2.2 a) = _ from cell_bool hs] at hw
  obtain ⟨x1, x2⟩ := i_ix i0 i1 hln
  refine va_zald (D := enD E) (cl := vwCl) (tys := tysE E) hC.1 hC.2.1 hC.2.2.2.2.2.2.2.2.1.1 hH.1 a 2 hw rfl x1 hd ?_
  rw [x2]
  exact kk E p l e R s m args below meth c Z H locs cells slots la hC hR hH hS h1 h2 hl
theorem T_lald {len : Nat} {i : Int} (hd : decode (miC M) pc = .ok (.laload, 1)) (ha : a < n) (hs : sh a = (21, len)) (hln : len < 2147483648) (i0 : 0 ≤ i) (i1 : i < len) (kk : T M (pc + 1) ls (vL (σ a i.toNat) :: st) bg (n, sh, σ) Q) : T M pc ls (vI i :: vR a :: st) bg (n, sh, σ) Q := by
  intro E p l e R s m args below meth c Z H locs cells slots la hC hR hH hS h1 h2 hl
  have hw := world_at E (n, sh, σ) ha
  rw [show cellE E (((n, sh, σ) : HS).2.1 a) (((n, sh, σ) : HS).2.2 a) = _ from cell_long hs] at hw
  obtain ⟨x1, x2⟩ := i_ix i0 i1 hln
  refine va_lald (D := enD E) (cl := vwCl) (tys := tysE E) hC.1 hC.2.1 hC.2.2.2.2.2.2.2.2.1.1 hH.1 a 1 hw rfl x1 hd ?_
  rw [x2]
  exact kk E p l e R s m args below meth c Z H locs cells slots la hC hR hH hS h1 h2 hl
theorem T_aald {len kd r : Nat} {i : Int} (hd : decode (miC M) pc = .ok (.aaload, 1)) (hk : kd = 23 ∨ kd = 24) (ha : a < n) (hs : sh a = (kd, len)) (hln : len < 2147483648) (i0 : 0 ≤ i) (i1 : i < len) (hr : σ a i.toNat = (r : Int)) (kk : T M (pc + 1) ls (vR r :: st) bg (n, sh, σ) Q) : T M pc ls (vI i :: vR a :: st) bg (n, sh, σ) Q := by
  intro E p l e R s m args below meth c Z H locs cells slots la hC hR hH hS h1 h2 hl
  have hw := world_at E (n, sh, σ) ha
  obtain ⟨x1, x2⟩ := i_ix i0 i1 hln
  have h0 : ¬ (r : Int) < 0 := by omega
  have hv : va_rf (rn E (σ a i.toNat)) = real E (vR r) := by rw [hr]; simp [rn, va_rf, real, h0]
  rcases hk with rfl | rfl
  · rw [show cellE E (((n, sh, σ) : HS).2.1 a) (((n, sh, σ) : HS).2.2 a) = _ from cell_track hs] at hw
    refine va_aldq (D := enD E) (cl := vwCl) (tys := tysE E) (C := RX8) hC.1 hC.2.1 hC.2.2.2.2.2.2.2.2.1.1 hH.1 a 3 hw rfl x1 hd ?_
    rw [x2]
    show W _ _ _ _ _ _ _ _ _ _ _ _ _ _ _ (F0 m (pc + 1) la (va_rf (rn E (σ a i.toNat)) :: _))
    rw [hv]
    exact kk E p l e R s m args below meth c Z H locs cells slots la hC hR hH hS h1 h2 hl
  · rw [show cellE E (((n, sh, σ) : HS).2.1 a) (((n, sh, σ) : HS).2.2 a) = _ from cell_place hs] at hw
    refine va_aldq (D := enD E) (cl := vwCl) (tys := tysE E) (C := RX3) hC.1 hC.2.1 hC.2.2.2.2.2.2.2.2.1.1 hH.1 a 4 hw rfl x1 hd ?_
    rw [x2]
    show W _ _ _ _ _ _ _ _ _ _ _ _ _ _ _ (F0 m (pc + 1) la (va_rf (rn E (σ a i.toNat)) :: _))
    rw [hv]
    exact kk E p l e R s m args below meth c Z H locs cells slots la hC hR hH hS h1 h2 hl
theorem T_alen {len kd : Nat} (hd : decode (miC M) pc = .ok (.arraylength, 1)) (hk : kd = 20) (ha : a < n) (hs : sh a = (kd, len)) (kk : T M (pc + 1) ls (vI len :: st) bg (n, sh, σ) Q) : T M pc ls (vR a :: st) bg (n, sh, σ) Q := by
  intro E p l e R s m args below meth c Z H locs cells slots la hC hR hH hS h1 h2 hl
  subst hk
  have hw := world_at E (n, sh, σ) ha
  rw [show cellE E (((n, sh, σ) : HS).2.1 a) (((n, sh, σ) : HS).2.2 a) = _ from cell_int hs] at hw
  exact va_alen (D := enD E) (cl := vwCl) (tys := tysE E) hC.1 hC.2.1 hC.2.2.2.2.2.2.2.2.1.1 hH.1 a 0 hw (ty := .int) rfl (v := Int32.ofInt len) rfl hd (kk E p l e R s m args below meth c Z H locs cells slots la hC hR hH hS h1 h2 hl)
theorem T_iast {len : Nat} {i x : Int} (hd : decode (miC M) pc = .ok (.iastore, 1)) (ha : a < n) (hs : sh a = (20, len)) (hln : len < 2147483648) (i0 : 0 ≤ i) (i1 : i < len) (kk : T M (pc + 1) ls st none (n, sh, up σ a i.toNat x) Q) : T M pc ls (vI x :: vI i :: vR a :: st) none (n, sh, σ) Q := by
  intro E p l e R s m args below meth c Z H locs cells slots la hC hR hH hS h1 h2 hl
  have hw := world_at E (n, sh, σ) ha
  rw [show cellE E (((n, sh, σ) : HS).2.1 a) (((n, sh, σ) : HS).2.2 a) = _ from cell_int hs] at hw
  obtain ⟨x1, x2⟩ := i_ix i0 i1 hln
  refine va_iast (D := enD E) (cl := vwCl) (tys := tysE E) (x := Int32.ofInt x) hC.1 hC.2.1 hC.2.2.2.2.2.2.2.2.1.1 hH.1 (world_D E (n, sh, σ)) hS a 0 hw rfl x1 hd fun H1 locs1 hP _ hS1 => ?_
  rw [x2, world_set (σ' := up σ a i.toNat x) ha up_ne (by
    rw [cell_int hs]
    congr 4
    funext j
    by_cases hj : j = i.toNat <;> simp [upd, up_eq, hj])] at hP
  exact kk E p l e R s m args below meth c Z H1 locs1 cells slots la hC hR ⟨hP, fun q => absurd rfl q⟩ hS1 h1 h2 hl
theorem T_zast {len : Nat} {i x : Int} (hd : decode (miC M) pc = .ok (.bastore, 1)) (hx : x = 0 ∨ x = 1) (ha : a < n) (hs : sh a = (22, len)) (hln : len < 2147483648) (i0 : 0 ≤ i) (i1 : i < len) (kk : T M (pc + 1) ls st none (n, sh, up σ a i.toNat x) Q) : T M pc ls (vI x :: vI i :: vR a :: st) none (n, sh, σ) Q := by
  intro E p l e R s m args below meth c Z H locs cells slots la hC hR hH hS h1 h2 hl
  have hw := world_at E (n, sh, σ) ha
  rw [show cellE E (((n, sh, σ) : HS).2.1 a) (((n, sh, σ) : HS).2.2 a) = _ from cell_bool hs] at hw
  obtain ⟨x1, x2⟩ := i_ix i0 i1 hln
  have hx9 : vp_nar .boolean (Int32.ofInt x) = Int32.ofInt x := by rcases hx with rfl | rfl <;> rfl
  refine va_zast (D := enD E) (cl := vwCl) (tys := tysE E) (x := Int32.ofInt x) hC.1 hC.2.1 hC.2.2.2.2.2.2.2.2.1.1 hH.1 (world_D E (n, sh, σ)) hS a 2 hw rfl x1 hd fun H1 locs1 hP _ hS1 => ?_
  rw [x2, hx9, world_set (σ' := up σ a i.toNat x) ha up_ne (by
    rw [cell_bool hs]
    congr 4
    funext j
    by_cases hj : j = i.toNat <;> simp [upd, up_eq, hj])] at hP
  exact kk E p l e R s m args below meth c Z H1 locs1 cells slots la hC hR ⟨hP, fun q => absurd rfl q⟩ hS1 h1 h2 hl
theorem T_last {len : Nat} {i x : Int} (hd : decode (miC M) pc = .ok (.lastore, 1)) (ha : a < n) (hs : sh a = (21, len)) (hln : len < 2147483648) (i0 : 0 ≤ i) (i1 : i < len) (kk : T M (pc + 1) ls st none (n, sh, up σ a i.toNat x) Q) : T M pc ls (vL x :: vI i :: vR a :: st) none (n, sh, σ) Q := by
  intro E p l e R s m args below meth c Z H locs cells slots la hC hR hH hS h1 h2 hl
  have hw := world_at E (n, sh, σ) ha
  rw [show cellE E (((n, sh, σ) : HS).2.1 a) (((n, sh, σ) : HS).2.2 a) = _ from cell_long hs] at hw
  obtain ⟨x1, x2⟩ := i_ix i0 i1 hln
  refine va_last (D := enD E) (cl := vwCl) (tys := tysE E) (x := Int64.ofInt x) hC.1 hC.2.1 hC.2.2.2.2.2.2.2.2.1.1 hH.1 (world_D E (n, sh, σ)) hS a 1 hw rfl x1 hd fun H1 locs1 hP _ hS1 => ?_
  rw [x2, world_set (σ' := up σ a i.toNat x) ha up_ne (by
    rw [cell_long hs]
    congr 5
    funext j
    by_cases hj : j = i.toNat <;> simp [vp_updL, up_eq, hj])] at hP
  exact kk E p l e R s m args below meth c Z H1 locs1 cells slots la hC hR ⟨hP, fun q => absurd rfl q⟩ hS1 h1 h2 hl
def mcpy (σ : Mem) (a b sp dp m : Nat) : Mem := fun c j => if c = b ∧ dp ≤ j ∧ j < dp + m then σ a (sp + (j - dp)) else σ c j
theorem T_copy {idx len len2 b : Nat} {sp dp m9 : Int} (hd : decode (miC M) pc = .ok (.invokestatic idx, 3)) (hw9 : Cond.methodLink (miO M) idx arraycopyName ∈ TS) (hF : 1 ≤ miF M) (hV : (st.map pcat).sum + (nativeFrameWords "java/lang/System" "arraycopy" 5 + 11) ≤ miV M) (ha : a < n) (hs : sh a = (20, len)) (hb : b < n) (hsb : sh b = (20, len2)) (hln : len < 2147483648) (hln2 : len2 < 2147483648) (s0 : 0 ≤ sp) (d0 : 0 ≤ dp) (m0 : 0 ≤ m9) (s1 : sp + m9 ≤ len) (d1 : dp + m9 ≤ len2) (kk : T M (pc + 3) ls st none (n, sh, mcpy σ a b sp.toNat dp.toNat m9.toNat) Q) : T M pc ls (vI m9 :: vI dp :: vR b :: vI sp :: vR a :: st) none (n, sh, σ) Q := by
  intro E p l e R s m args below meth c Z H locs cells slots la hC hR hH hS h1 h2 hl
  have hw := world_at E (n, sh, σ) ha
  rw [show cellE E (((n, sh, σ) : HS).2.1 a) (((n, sh, σ) : HS).2.2 a) = _ from cell_int hs] at hw
  have hwb := world_at E (n, sh, σ) hb
  rw [show cellE E (((n, sh, σ) : HS).2.1 b) (((n, sh, σ) : HS).2.2 b) = _ from cell_int hsb] at hwb
  have nn : ∀ z : Int, 0 ≤ z → z < 2147483648 → ¬ Int32.ofInt z < 0 ∧ (Int32.ofInt z).toNatClampNeg = z.toNat := by
    intro z z0 z1
    have hz : R32 z := ⟨by omega, z1⟩
    exact ⟨fun q => absurd ((i_lt hz R32_0).mp q) (by omega), by show (Int32.ofInt z).toInt.toNat = _; rw [i_to hz]⟩
  obtain ⟨a1, a2⟩ := nn sp s0 (by omega)
  obtain ⟨b1, b2⟩ := nn dp d0 (by omega)
  obtain ⟨c1, c2⟩ := nn m9 m0 (by omega)
  refine va_copyi (D := enD E) (cl := vwCl) (tys := tysE E) (ty := .int) hC.1 hC.2.1 (hC.2.2.1.trans hl.1.symm) hC.2.2.2.1 (hC.2.2.2.2.1 _ hw9) (hC.2.2.2.2.1 _ nat_System_arraycopyLj) (hC.2.2.2.2.1 _ sm_System_arraycopyLj) (hC.2.2.2.2.1 _ ini_System) hC.2.2.2.2.2.2.2.2.1.1 hH.1 (world_D E (n, sh, σ)) hS a b 0 0 hw hwb rfl rfl rfl a1 b1 c1 (by rw [a2, c2]; omega) (by rw [b2, c2]; omega) (fun _ _ => rfl) (Nat.le_trans hF hC.2.2.2.2.2.2.1) (Nat.le_trans (by rw [List.map_map]; exact Nat.le_trans (Nat.le_of_eq (by congr 2; congr 1; funext v; exact real_cat E v)) hV) hC.2.2.2.2.2.2.2.1) hd fun H1 locs1 hP _ hS1 => ?_
  rw [a2, b2, c2, world_set (σ' := mcpy σ a b sp.toNat dp.toNat m9.toNat) hb (fun x hx => by funext j; simp [mcpy, hx]) (by
    rw [cell_int hsb]
    congr 4
    funext j
    simp only [va_cpy, mcpy, true_and]
    split <;> rfl)] at hP
  exact kk E p l e R s m args below meth c Z H1 locs1 cells slots la hC hR ⟨hP, fun q => absurd rfl q⟩ hS1 h1 h2 hl
/-! the script -/
theorem T_sald {i : Int} (hd : decode (miC M) pc = .ok (.iaload, 1)) (hW : miW M = true) (hln : (miX M).1 < 2147483648) (i0 : 0 ≤ i) (i1 : i < (miX M).1) (kk : T M (pc + 1) ls (vI ((miX M).2 i.toNat) :: st) bg (n, sh, σ) Q) : T M pc ls (vI i :: vS :: st) bg (n, sh, σ) Q := by
  intro E p l e R s m args below meth c Z H locs cells slots la hC hR hH hS h1 h2 hl
  obtain ⟨x1, x2⟩ := i_ix i0 i1 hln
  obtain ⟨g1, g2, g3, g4, g5⟩ := hC.2.2.2.2.2.2.2.2.2.2 hW
  refine va_sld hC.1 hC.2.1 g1 g2 (A := fun q => enB E ≤ q) (Nat.not_le.mpr g3) hS (by rw [g4]; exact x1) hd ?_
  rw [x2, g5]
  exact kk E p l e R s m args below meth c Z H locs cells slots la hC hR hH hS h1 h2 hl
theorem T_slen (hd : decode (miC M) pc = .ok (.arraylength, 1)) (hW : miW M = true) (kk : T M (pc + 1) ls (vI ((miX M).1 : Int) :: st) bg (n, sh, σ) Q) : T M pc ls (vS :: st) bg (n, sh, σ) Q := by
  intro E p l e R s m args below meth c Z H locs cells slots la hC hR hH hS h1 h2 hl
  obtain ⟨g1, g2, g3, g4, g5⟩ := hC.2.2.2.2.2.2.2.2.2.2 hW
  refine va_slen hC.1 hC.2.1 g1 g2 (A := fun q => enB E ≤ q) (Nat.not_le.mpr g3) hS hd ?_
  rw [g4]
  exact kk E p l e R s m args below meth c Z H locs cells slots la hC hR hH hS h1 h2 hl
/-! leaving the allocating mode -/
theorem T_drop {b : Nat × Nat} {h : HS} (kk : T M pc ls st none h Q) : T M pc ls st (some b) h Q := by
  intro E p l e R s m args below meth c Z H locs cells slots la hC hR hH hS h1 h2 hl
  exact kk E p l e R s m args below meth c Z H locs cells slots la hC hR ⟨hH.1, fun q => absurd rfl q⟩ hS (by simp only [bgC] at h1 ⊢; omega) (by simp only [bgS] at h2 ⊢; omega) hl
/-! returns -/
theorem T_vret {h : HS} (hd : decode (miC M) pc = .ok (.return_, 1)) (hr : miR M = none) (hm : bg ≠ none ∨ miI M = false) (hq : Q none h) : T M pc ls [] bg h Q := by
  intro E p l e R s m args below meth c Z H locs cells slots la hC hR hH hS h1 h2 hl
  refine hR none h H locs cells slots pc la hq hH.1 (fun q => ?_) hS (by omega) (by omega) (by rw [hr]; exact hd) (by rw [hr]; trivial)
  rcases hm with hm | hm
  · exact hH.2 hm
  · rw [hm] at q; cases q
theorem T_iret {h : HS} {x : Int} (hd : decode (miC M) pc = .ok (.ireturn, 1)) (hr : miR M = some .int) (hm : miI M = false) (hq : Q (some (vI x)) h) : T M pc ls [vI x] bg h Q := by
  intro E p l e R s m args below meth c Z H locs cells slots la hC hR hH hS h1 h2 hl
  exact hR (some (vI x)) h H locs cells slots pc la hq hH.1 (fun q => by rw [hm] at q; cases q) hS (by omega) (by omega) (by rw [hr]; exact hd) (by rw [hr]; trivial)
theorem T_zret {h : HS} {x : Int} (hd : decode (miC M) pc = .ok (.ireturn, 1)) (hr : miR M = some .boolean) (hm : miI M = false) (hx : x = 0 ∨ x = 1) (hq : Q (some (vI x)) h) : T M pc ls [vI x] bg h Q := by
  intro E p l e R s m args below meth c Z H locs cells slots la hC hR hH hS h1 h2 hl
  exact hR (some (vI x)) h H locs cells slots pc la hq hH.1 (fun q => by rw [hm] at q; cases q) hS (by omega) (by omega) (by rw [hr]; exact hd) (by rw [hr]; exact hx)
theorem T_lret {h : HS} {x : Int} (hd : decode (miC M) pc = .ok (.lreturn, 1)) (hr : miR M = some .long) (hm : miI M = false) (hq : Q (some (vL x)) h) : T M pc ls [vL x] bg h Q := by
  intro E p l e R s m args below meth c Z H locs cells slots la hC hR hH hS h1 h2 hl
  exact hR (some (vL x)) h H locs cells slots pc la hq hH.1 (fun q => by rw [hm] at q; cases q) hS (by omega) (by omega) (by rw [hr]; exact hd) (by rw [hr]; trivial)
/-! the library's own methods -/
theorem rest_cat (E : En) (st : List PV) : ((st.map (real E)).map fun v => v.category).sum = (st.map pcat).sum := by
  rw [List.map_map]
  congr 2
  funext v
  exact real_cat E v
theorem T_max {h : HS} {idx : Nat} {x y : Int} (hd : decode (miC M) pc = .ok (.invokestatic idx, 3)) (hw : Cond.methodLink (miO M) idx Lib.Math.max.name ∈ TS) (hF : 1 ≤ miF M) (hV : (st.map pcat).sum + 13 ≤ miV M) (hx : R32 x) (hy : R32 y) (kk : T M (pc + 3) ls (vI (max x y) :: st) bg h Q) : T M pc ls (vI y :: vI x :: st) bg h Q := by
  intro E p l e R s m args below meth c Z H locs cells slots la hC hR hH hS h1 h2 hl
  refine va_mmax hC.1 hC.2.1 (hC.2.2.1.trans hl.1.symm) hC.2.2.2.1 (hC.2.2.2.2.1 _ hw) (hC.2.2.2.2.1 _ sm_Math_maxII) (hC.2.2.2.2.1 _ ini_Math) (hC.2.2.2.2.1 _ co_Math_maxII) (Nat.le_trans hF hC.2.2.2.2.2.2.1) (Nat.le_trans (by rw [rest_cat]; exact hV) hC.2.2.2.2.2.2.2.1) (by omega) (by omega) hd ?_
  have e9 : (if Int32.ofInt x < Int32.ofInt y then Int32.ofInt y else Int32.ofInt x) = Int32.ofInt (max x y) := by
    by_cases q : x < y
    · rw [if_pos ((i_lt hx hy).mpr q)]; congr 1; omega
    · rw [if_neg (fun z => q ((i_lt hx hy).mp z))]; congr 1; omega
  rw [e9]
  exact kk E p l e R s m args below meth c Z H locs cells slots la hC hR hH hS h1 h2 hl
theorem T_min {h : HS} {idx : Nat} {x y : Int} (hd : decode (miC M) pc = .ok (.invokestatic idx, 3)) (hw : Cond.methodLink (miO M) idx Lib.Math.min.name ∈ TS) (hF : 1 ≤ miF M) (hV : (st.map pcat).sum + 13 ≤ miV M) (hx : R32 x) (hy : R32 y) (kk : T M (pc + 3) ls (vI (min x y) :: st) bg h Q) : T M pc ls (vI y :: vI x :: st) bg h Q := by
  intro E p l e R s m args below meth c Z H locs cells slots la hC hR hH hS h1 h2 hl
  refine va_mmin hC.1 hC.2.1 (hC.2.2.1.trans hl.1.symm) hC.2.2.2.1 (hC.2.2.2.2.1 _ hw) (hC.2.2.2.2.1 _ sm_Math_minII) (hC.2.2.2.2.1 _ ini_Math) (hC.2.2.2.2.1 _ co_Math_minII) (Nat.le_trans hF hC.2.2.2.2.2.2.1) (Nat.le_trans (by rw [rest_cat]; exact hV) hC.2.2.2.2.2.2.2.1) (by omega) (by omega) hd ?_
  have e9 : (if Int32.ofInt y < Int32.ofInt x then Int32.ofInt y else Int32.ofInt x) = Int32.ofInt (min x y) := by
    by_cases q : y < x
    · rw [if_pos ((i_lt hy hx).mpr q)]; congr 1; omega
    · rw [if_neg (fun z => q ((i_lt hy hx).mp z))]; congr 1; omega
  rw [e9]
  exact kk E p l e R s m args below meth c Z H locs cells slots la hC hR hH hS h1 h2 hl
def iabs (x : Int) : Int := if 0 ≤ x then x else -x
theorem T_abs {h : HS} {idx : Nat} {x : Int} (hd : decode (miC M) pc = .ok (.invokestatic idx, 3)) (hw : Cond.methodLink (miO M) idx Lib.Math.abs.name ∈ TS) (hF : 1 ≤ miF M) (hV : (st.map pcat).sum + 13 ≤ miV M) (hx : R32 x) (kk : T M (pc + 3) ls (vI (iabs x) :: st) bg h Q) : T M pc ls (vI x :: st) bg h Q := by
  intro E p l e R s m args below meth c Z H locs cells slots la hC hR hH hS h1 h2 hl
  refine va_mabs hC.1 hC.2.1 (hC.2.2.1.trans hl.1.symm) hC.2.2.2.1 (hC.2.2.2.2.1 _ hw) (hC.2.2.2.2.1 _ sm_Math_absI) (hC.2.2.2.2.1 _ ini_Math) (hC.2.2.2.2.1 _ co_Math_absI) (Nat.le_trans hF hC.2.2.2.2.2.2.1) (Nat.le_trans (by rw [rest_cat]; omega) hC.2.2.2.2.2.2.2.1) (by omega) (by omega) hd ?_
  have e9 : (if 0 ≤ Int32.ofInt x then Int32.ofInt x else 0 - Int32.ofInt x) = Int32.ofInt (iabs x) := by
    unfold iabs
    rw [show (0 : Int32) = Int32.ofInt 0 from rfl]
    by_cases q : 0 ≤ x
    · rw [if_pos ((i_le R32_0 hx).mpr q), if_pos q]
    · rw [if_neg (fun z => q ((i_le R32_0 hx).mp z)), if_neg q]
      rw [i_sub]
      congr 1; omega
  rw [e9]
  exact kk E p l e R s m args below meth c Z H locs cells slots la hC hR hH hS h1 h2 hl
theorem T_labs {h : HS} {idx : Nat} {x : Int} (hd : decode (miC M) pc = .ok (.invokestatic idx, 3)) (hw : Cond.methodLink (miO M) idx Lib.MathLoose.abs_long.x ∈ TS) (hF : 1 ≤ miF M) (hV : (st.map pcat).sum + 13 ≤ miV M) (hx : R64 x) (kk : T M (pc + 3) ls (vL (iabs x) :: st) bg h Q) : T M pc ls (vL x :: st) bg h Q := by
  intro E p l e R s m args below meth c Z H locs cells slots la hC hR hH hS h1 h2 hl
  refine va_mabs_long hC.1 hC.2.1 (hC.2.2.1.trans hl.1.symm) hC.2.2.2.1 (hC.2.2.2.2.1 _ hw) (hC.2.2.2.2.1 _ sm_Math_absJ) (hC.2.2.2.2.1 _ ini_Math) (hC.2.2.2.2.1 _ co_Math_absJ) (Nat.le_trans hF hC.2.2.2.2.2.2.1) (Nat.le_trans (by rw [rest_cat]; omega) hC.2.2.2.2.2.2.2.1) (by omega) (by omega) hd ?_
  have e9 : (if 0 < Int64.ofInt x then Int64.ofInt x else -Int64.ofInt x) = Int64.ofInt (iabs x) := by
    unfold iabs
    rw [show (0 : Int64) = Int64.ofInt 0 from rfl]
    have z0 : R64 0 := by decide
    by_cases q : 0 < x
    · rw [if_pos ((l_lt z0 hx).mpr q), if_pos (by omega)]
    · rw [if_neg (fun z => q ((l_lt z0 hx).mp z)), l_neg]
      by_cases q2 : 0 ≤ x
      · rw [if_pos q2]; congr 1; omega
      · rw [if_neg q2]
  rw [e9]
  exact kk E p l e R s m args below meth c Z H locs cells slots la hC hR hH hS h1 h2 hl
end HEAP
end
section
/-! making cells, entering and calling methods -/
def shp (sh : Nat → Nat × Nat) (n : Nat) (kd : Nat × Nat) : Nat → Nat × Nat := fun k => if k = n then kd else sh k
def zer (σ : Mem) (n : Nat) (v : Int) : Mem := fun b j => if b = n then v else σ b j
theorem world_push (E : En) {n : Nat} {sh : Nat → Nat × Nat} {σ : Mem} {kd : Nat × Nat} {f : Nat → Int} {σ' : Mem} (h1 : ∀ b, b ≠ n → σ' b = σ b) (h2 : σ' n = f) : world E (n, sh, σ) ++ [(enB E + n, cellE E kd f)] = world E (n + 1, shp sh n kd, σ') := by
  apply List.ext_getElem?
  intro j
  by_cases hj : j < n
  · rw [List.getElem?_append_left (by simpa [world] using hj), world_at E (n, sh, σ) hj, world_at E (n + 1, shp sh n kd, σ') (by show j < n + 1; omega)]
    show some (enB E + j, cellE E (sh j) (σ j)) = some (enB E + j, cellE E (shp sh n kd j) (σ' j))
    rw [h1 j (by omega), shp, if_neg (by omega)]
  · rw [List.getElem?_append_right (by simp [world]; omega)]
    by_cases hn : j = n
    · subst hn
      rw [world_at E (j + 1, shp sh j kd, σ') (by show j < j + 1; omega)]
      simp [world, shp, h2]
    · have e1 : (world E (n + 1, shp sh n kd, σ'))[j]? = none := by simp [world]; omega
      rw [e1]
      have : j - (world E (n, sh, σ)).length = (j - n - 1) + 1 := by simp [world]; omega
      rw [this]
      rfl
section CALLS
variable {M : MI} {pc : Nat} {ls st : List PV} {bg : Option (Nat × Nat)} {n : Nat} {sh : Nat → Nat × Nat} {σ : Mem} {Q : Option PV → HS → Prop} {a : Nat}
theorem va_S.grow {A : Nat → Prop} {H0 H H1 : Heap} {locs : List Loc} (h : va_S A H0 H locs) (z : H1.size = H.size + 1) (o : ∀ q, q < H.size → H1[q]? = H[q]?) : va_S A H0 H1 locs := ⟨by have := h.1; omega, fun q h1 h2 => (o q (Nat.lt_of_lt_of_le h1 h.1)).trans (h.2.1 q h1 h2), h.2.2⟩
theorem T_newarr {kd : Nat} {atype : ArrayType} {len : Nat} {bc bs : Nat} (hd : decode (miC M) pc = .ok (.newarray atype, 2)) (ht : (kd = 20 ∧ atype = .int) ∨ (kd = 21 ∧ atype = .long) ∨ (kd = 22 ∧ atype = .boolean)) (hln : len < 65536) (kk : T M (pc + 2) ls (vR n :: st) (some (bc, bs)) (n + 1, shp sh n (kd, len), zer σ n 0) Q) : T M pc ls (vI len :: st) (some (bc + 1, bs + len)) (n, sh, σ) Q := by
  intro E p l e R s m args below meth c Z H locs cells slots la hC hR hH hS h1 h2 hl
  have hr : R32 (len : Int) := ⟨by omega, by omega⟩
  have z1 : ¬ Int32.ofInt (len : Int) < 0 := fun q => absurd ((i_lt hr R32_0).mp q) (by omega)
  have z2 : (Int32.ofInt (len : Int)).toNatClampNeg = len := by show (Int32.ofInt (len : Int)).toInt.toNat = _; rw [i_to hr]; rfl
  simp only [bgC, bgS] at h1 h2
  have hsz := hH.2 (by simp)
  have hK := hC.2.2.2.2.2.2.2.2.1.1
  have fin : ∀ (ty : FieldType) (ca : ClassId), newarray.typeOf atype = ty → enA E kd = ca → (∀ H' : Heap, H'[enB E + n]? = some (arrV (enA E kd) len (fun _ => defaultValue ty)) → H'.size = H.size + 1 → (∀ q, q < H.size → H'[q]? = H[q]?) → va_at (enD E) vwCl (enB E + n, cellE E (kd, len) (fun _ => 0)) H') → (∀ (cA : ClassId), s.vm.findClass ("[" ++ ty.toString) = some cA → cA = enA E kd) → (Cond.arrayClass ty).before args s = true → len * componentBytes ty ≤ 536870912 → W p l e R s m args below meth c H locs cells slots Z (F0 m pc la ((vI len :: st).map (real E))) := by
    intro ty ca hty hca hat hcls hac hby
    subst hty
    refine va_newaK (N := len) (h := enB E + n) hC.1 hC.2.1 hac rfl hd rfl z1 z2 hby (by omega) (by omega) hsz fun H' cA e1 e2 e3 e4 e5 => ?_
    have hcA := hcls cA e5
    subst hcA
    rw [← hsz] at e2 e3
    refine kk E p l e R s m args below meth c Z H' locs (cells + 1) (slots + len) la hC hR ⟨?_, fun _ => by rw [e2, hsz]; rfl⟩ (hS.grow e2 e3) (by simp only [bgC]; omega) (by simp only [bgS]; omega) hl
    rw [← world_push E (σ := σ) (kd := (kd, len)) (f := fun _ => 0) (fun b hb => by funext j; simp [zer, hb]) (by funext j; simp [zer])]
    refine (hH.1.kept fun k q hq => e3 q.1 ?_).app ?_
    · exact (hH.1 k q hq).lt
    · intro k q hq
      have hz : k < 1 := (List.getElem?_eq_some_iff.mp hq).1
      rw [show k = 0 by omega] at hq
      cases hq
      exact hat H' e1 e2 e3
  have uniq : ∀ (t : Nat) (ca : ClassId) (ty : FieldType), (tysE E)[t]? = some (ca, ty) → (∀ C, ty ≠ .object C) → ∀ cA, s.vm.findClass ("[" ++ ty.toString) = some cA → cA = ca := by
    intro t ca ty ht hno cA hcA
    have h9 := (hK.2 t _ ht).2
    have h8 : s.vm.findClass ("[" ++ ty.toString) = some ca := by
      cases ty <;> first | exact h9 | exact absurd rfl (hno _)
    exact Option.some.inj (hcA.symm.trans h8)
  rcases ht with ⟨rfl, rfl⟩ | ⟨rfl, rfl⟩ | ⟨rfl, rfl⟩
  · exact fin .int _ rfl rfl (fun H' e1 _ _ => by rw [cell_int rfl]; exact e1) (uniq 0 _ _ rfl (fun C q => by cases q)) (hC.2.2.2.2.1 _ ac_int) (by show len * 4 ≤ _; omega)
  · exact fin .long _ rfl rfl (fun H' e1 _ _ => by rw [cell_long rfl]; exact e1) (uniq 1 _ _ rfl (fun C q => by cases q)) (hC.2.2.2.2.1 _ ac_long) (by show len * 8 ≤ _; omega)
  · exact fin .boolean _ rfl rfl (fun H' e1 _ _ => by rw [cell_bool rfl]; exact e1) (uniq 2 _ _ rfl (fun C q => by cases q)) (hC.2.2.2.2.1 _ ac_boolean) (by show len * 1 ≤ _; omega)
theorem T_anew {kd idx len bc bs : Nat} (hd : decode (miC M) pc = .ok (.anewarray idx, 3)) (ht : (kd = 23 ∧ Cond.classLink (miO M) idx RX8 ∈ TS) ∨ (kd = 24 ∧ Cond.classLink (miO M) idx RX3 ∈ TS)) (hln : len < 65536) (kk : T M (pc + 3) ls (vR n :: st) (some (bc, bs)) (n + 1, shp sh n (kd, len), zer σ n (-1)) Q) : T M pc ls (vI len :: st) (some (bc + 1, bs + len)) (n, sh, σ) Q := by
  intro E p l e R s m args below meth c Z H locs cells slots la hC hR hH hS h1 h2 hl
  have hr : R32 (len : Int) := ⟨by omega, by omega⟩
  have z1 : ¬ Int32.ofInt (len : Int) < 0 := fun q => absurd ((i_lt hr R32_0).mp q) (by omega)
  have z2 : (Int32.ofInt (len : Int)).toNatClampNeg = len := by show (Int32.ofInt (len : Int)).toInt.toNat = _; rw [i_to hr]; rfl
  simp only [bgC, bgS] at h1 h2
  have hsz := hH.2 (by simp)
  have hK := hC.2.2.2.2.2.2.2.2.1.1
  have fin : ∀ (C : String), Cond.classLink (miO M) idx C ∈ TS → (Cond.arrayOver (.object C)).before args s = true → (∀ cA, s.vm.findClass ("[" ++ (FieldType.object C).toString) = some cA → cA = enA E kd) → (kd = 23 ∨ kd = 24) → W p l e R s m args below meth c H locs cells slots Z (F0 m pc la ((vI len :: st).map (real E))) := by
    intro C hcl hov hun hkd
    refine W.anew hC.1 hC.2.1 hC.2.2.2.1 (hC.2.2.2.2.1 _ hcl) hov rfl hd rfl z1 (by rw [z2]; omega) (by omega) (by rw [z2]; omega) fun cA kA comp f1 f2 f3 f4 => ?_
    have hcA := hun cA f1
    subst hcA
    rw [z2]
    generalize hH1 : H.push ({ cls := enA E kd, slots := Array.replicate len .null, vm := .none } : Cell) = H'
    have e2 : H'.size = H.size + 1 := by rw [← hH1, Array.size_push]
    have e1 : H'[enB E + n]? = some (arrV (enA E kd) len (fun _ => .null)) := by rw [← hsz, ← hH1, Array.getElem?_push_size, ← arrV_new]
    have e3 : ∀ q : Nat, q < H.size → H'[q]? = H[q]? := fun q hq => by rw [← hH1, Array.getElem?_push, if_neg (Nat.ne_of_lt hq)]
    have hk := kk E p l e R s m args below meth c Z H' locs (cells + 1) (slots + len) la hC hR ⟨?_, fun _ => by rw [e2, hsz]; rfl⟩ (hS.grow e2 e3) (by simp only [bgC]; omega) (by simp only [bgS]; omega) hl
    · rw [hsz]
      exact hk
    rw [← world_push E (σ := σ) (kd := (kd, len)) (f := fun _ => -1) (fun b hb => by funext j; simp [zer, hb]) (by funext j; simp [zer])]
    refine (hH.1.kept fun k q hq => e3 q.1 (hH.1 k q hq).lt).app ?_
    intro k q hq
    have hz : k < 1 := (List.getElem?_eq_some_iff.mp hq).1
    rw [show k = 0 by omega] at hq
    cases hq
    rcases hkd with rfl | rfl
    · rw [cell_track rfl]; exact e1
    · rw [cell_place rfl]; exact e1
  have uniq : ∀ (t : Nat) (ca : ClassId) (C : String), (tysE E)[t]? = some (ca, .object C) → ∀ cA, s.vm.findClass ("[" ++ (FieldType.object C).toString) = some cA → cA = ca := by
    intro t ca C ht cA hcA
    obtain ⟨_, _, _, _, _, h8⟩ := (hK.2 t _ ht).2
    exact Option.some.inj (hcA.symm.trans h8)
  rcases ht with ⟨rfl, q⟩ | ⟨rfl, q⟩
  · exact fin RX8 q (va_AO.use hC.2.2.2.2.2.2.2.2.1.2.1.1) (uniq 3 _ _ rfl) (Or.inl rfl)
  · exact fin RX3 q (va_AO.use hC.2.2.2.2.2.2.2.2.1.2.1.2) (uniq 4 _ _ rfl) (Or.inr rfl)
def dfl (c j : Nat) : Int := if isRefT (tyC c j) = true then -1 else 0
def obj (σ : Mem) (n c : Nat) : Mem := fun b j => if b = n then dfl c j else σ b j
def okT : FieldType → Bool
  | .int => true
  | .long => true
  | .boolean => true
  | .object _ => true
  | .array _ => true
  | _ => false
def Cls (own : String) (idx c n : Nat) : Prop := ∃ (C : String) (U : u_T), vwCl[c]? = some (C, U, n) ∧ c < 20 ∧ (∀ w ∈ u_ws C U n, w ∈ TS) ∧ (∀ j, j < n → parseFieldDescriptor (U j).2.2.1 = some (tyC c j)) ∧ Cond.classLink own idx C ∈ TS ∧ Cond.instantiable C n ∈ TS ∧ Cond.initialized C ∈ TS ∧ ∀ j, j < n → okT (tyC c j) = true
theorem rv_dfl (E : En) {c j : Nat} (h : okT (tyC c j) = true) : defaultValue (tyC c j) = rv E (tyC c j) (dfl c j) := by
  unfold dfl
  cases hq : tyC c j <;> first | rfl | (rw [hq] at h; cases h)
theorem T_new {idx c nf bc bs : Nat} (hd : decode (miC M) pc = .ok (.new idx, 3)) (hc : Cls (miO M) idx c nf) (kk : T M (pc + 3) ls (vR n :: st) (some (bc, bs)) (n + 1, shp sh n (c, nf), obj σ n c) Q) : T M pc ls st (some (bc + 1, bs + nf)) (n, sh, σ) Q := by
  intro E p l e R s m args below meth c0 Z H locs cells slots la hC hR hH hS h1 h2 hl
  obtain ⟨C, U, f1, f2, f3, f4, f5, f6, f7, f8⟩ := hc
  simp only [bgC, bgS] at h1 h2
  have hsz := hH.2 (by simp)
  have hts := hC.2.2.2.2.1
  have hKn := hC.2.2.2.2.2.2.2.2.1.1.1 c _ f1
  refine W.newcK (h := enB E + n) hC.1 hC.2.1 hC.2.2.2.1 (hts _ f5) (hts _ f6) (hts _ f7) rfl hd (by omega) (by omega) hKn.2.1 hsz fun H' kC hkC e1 e2 e3 => ?_
  rw [← hsz] at e2 e3
  refine kk E p l e R s m args below meth c0 Z H' locs (cells + 1) (slots + nf) la hC hR ⟨?_, fun _ => by rw [e2, hsz]; rfl⟩ (hS.grow e2 e3) (by simp only [bgC]; omega) (by simp only [bgS]; omega) hl
  rw [← world_push E (σ := σ) (kd := (c, nf)) (f := fun j => dfl c j) (fun b hb => by funext j; simp [obj, hb]) (by funext j; simp [obj])]
  refine (hH.1.kept fun k q hq => e3 q.1 (hH.1 k q hq).lt).app ?_
  intro k q hq
  have hz : k < 1 := (List.getElem?_eq_some_iff.mp hq).1
  rw [show k = 0 by omega] at hq
  cases hq
  rw [cell_obj rfl f2]
  refine ⟨_, f1, (u_born (tyC c) hts f3 hKn hkC e1 f4).to fun j hj => ?_⟩
  rw [rv_dfl E (f8 j hj)]
  simp [vp_V, hj]
theorem T_aast {kd c nf len v : Nat} {i : Int} (hd : decode (miC M) pc = .ok (.aastore, 1)) (hk : (kd = 23 ∧ c = 8) ∨ (kd = 24 ∧ c = 3)) (ha : a < n) (hs : sh a = (kd, len)) (hv : v < n) (hsv : sh v = (c, nf)) (hln : len < 2147483648) (i0 : 0 ≤ i) (i1 : i < len) (kk : T M (pc + 1) ls st bg (n, sh, up σ a i.toNat v) Q) : T M pc ls (vR v :: vI i :: vR a :: st) bg (n, sh, σ) Q := by
  intro E p l e R s m args below meth c0 Z H locs cells slots la hC hR hH hS h1 h2 hl
  have hK := hC.2.2.2.2.2.2.2.2.1.1
  have hw := world_at E (n, sh, σ) ha
  have hwv := world_at E (n, sh, σ) hv
  rw [show cellE E (((n, sh, σ) : HS).2.1 v) (((n, sh, σ) : HS).2.2 v) = _ from cell_obj hsv (by omega)] at hwv
  obtain ⟨x1, x2⟩ := i_ix i0 i1 hln
  have hlt : (Int32.ofInt i).toNatClampNeg < len := by rw [x2]; omega
  have h0 : ¬ Int32.ofInt i < 0 := fun q => x1 (Or.inl q)
  obtain ⟨r', hr', cellV, g1, g2, g3, -⟩ := hH.1 v _ hwv
  have fin : ∀ (t0 : Nat) (C : String) (U : u_T) (nf' : Nat), vwCl[c]? = some (C, U, nf') → (tysE E)[t0]? = some (enA E kd, .object C) → (∀ f, cellE E (kd, len) f = .inl (enA E kd, len, .inr (.inr (.inr (.inr (fun i => rn E (f i))))))) → W p l e R s m args below meth c0 H locs cells slots Z (F0 m pc la ((vR v :: vI i :: vR a :: st).map (real E))) := by
    intro t0 C U nf' hc ht hcell
    rw [show cellE E (((n, sh, σ) : HS).2.1 a) (((n, sh, σ) : HS).2.2 a) = cellE E (kd, len) (σ a) by rw [show ((n, sh, σ) : HS).2.1 a = sh a from rfl, hs], hcell] at hw
    have hcls := (hK.1 c _ hc).2
    obtain ⟨kA, comp, k1, k2, k3, -⟩ := (hK.2 t0 _ ht).2
    have hcomp : comp = (enD E).1 c := Option.some.inj (k3.symm.trans hcls.1)
    subst hcomp
    obtain ⟨kC, hkC, -⟩ := hcls.2
    refine W.aast hC.1 hC.2.1 (hH.1 a _ hw) (fun q h => by cases h) (fun h => by cases h) k1 k2 rfl hkC ⟨h0, by show _ < (arrV _ _ _).slots.size; rw [arrV_size]; exact hlt⟩ g1 (fun q h => by rw [g3] at h; cases h) (by rw [g2]; exact hkC) (by rw [g2]; exact va_assign hcls) rfl rfl hd fun H1 e1 z oq => ?_
    have hPn := hH.1.set (world_D E (n, sh, σ)) hw (H1 := H1) (e := .inl (enA E kd, len, .inr (.inr (.inr (.inr (fun j => rn E (up σ a i.toNat v a j))))))) (by
      show H1[enB E + a]? = some (vp_cell _ _)
      rw [e1]
      show some ((vp_cell (enA E kd) (len, _)).setSlot _ _) = _
      rw [vp_cell_q, vp_cell_q, arrV_store, x2]
      congr 2
      funext q
      by_cases hq : q = i.toNat
      · subst hq
        have h0 : ¬ (v : Int) < 0 := by omega
        simp [updV, up_eq, rn, va_rf, h0]
      · simp [updV, up_eq, hq]) oq
    rw [world_set (σ' := up σ a i.toNat v) ha up_ne (by rw [hs, hcell])] at hPn
    exact kk E p l e R s m args below meth c0 Z H1 _ cells slots la hC hR ⟨hPn, fun q => by rw [z]; exact hH.2 q⟩ (hS.put z oq (Nat.le_add_right _ _)) h1 h2 hl
  rcases hk with ⟨rfl, rfl⟩ | ⟨rfl, rfl⟩
  · exact fin 3 _ _ _ rfl rfl (fun f => cell_track rfl)
  · exact fin 4 _ _ _ rfl rfl (fun f => cell_place rfl)
theorem T_oinit {idx : Nat} {h : HS} (hd : decode (miC M) pc = .ok (.invokespecial idx, 3)) (hw : Cond.methodLink (miO M) idx objectInit ∈ TS) (hF : 1 ≤ miF M) (hV : (st.map pcat).sum + 12 ≤ miV M) (kk : T M (pc + 3) ls st bg h Q) : T M pc ls (vR a :: st) bg h Q := by
  intro E p l e R s m args below meth c Z H locs cells slots la hC hR hH hS h1 h2 hl
  have hts := hC.2.2.2.2.1
  refine W.objInit hC.1 hC.2.1 hC.2.2.2.1 (hts _ hw) (hts _ im_Object_initV) (hts _ co_Object_initV) rfl (hl.1.trans hC.2.2.1.symm) rfl hd (Nat.le_trans hF hC.2.2.2.2.2.2.1) ?_ (kk E p l e R s m args below meth c Z H locs cells slots la hC hR hH hS h1 h2 hl)
  have := hC.2.2.2.2.2.2.2.1
  rw [show (F0 m pc la ((vR a :: st).map (real E))).monitorRoom = 0 from rfl, rest_cat]
  omega
end CALLS
end
section
/-! entering a method, calling one -/
def entL : List PV → List PV
  | [] => []
  | .inr (.inl x) :: r => .inr (.inl x) :: vU :: entL r
  | v :: r => v :: entL r
def ent (M : MI) (as : List PV) : List PV := entL as ++ List.replicate (miL M - (entL as).length) vU
theorem lvl_unset (E : En) : ∀ (k j : Nat), lvl E j (List.replicate k vU) = []
  | 0, _ => rfl
  | k + 1, j => by
    show lvl E j (vU :: List.replicate k vU) = []
    exact lvl_unset E k (j + 1)
theorem ent_sub (E : En) (k : Nat) : ∀ (as : List PV) (j : Nat) (q : Nat × Value), q ∈ lvl E j (entL as ++ List.replicate k vU) → q ∈ lv_args j (as.map (real E))
  | [], j, q, h => by
    rw [show entL [] ++ List.replicate k vU = List.replicate k vU from rfl, lvl_unset] at h
    cases h
  | v :: as, j, q, h => by
    rcases v with x | x | x | x
    · rcases List.mem_cons.mp h with h | h
      · exact List.mem_cons.mpr (Or.inl h)
      · exact List.mem_cons_of_mem _ (ent_sub E k as (j + 1) q h)
    · rcases List.mem_cons.mp h with h | h
      · exact List.mem_cons.mpr (Or.inl h)
      · exact List.mem_cons_of_mem _ (ent_sub E k as (j + 2) q h)
    · rcases List.mem_cons.mp h with h | h
      · exact List.mem_cons.mpr (Or.inl h)
      · exact List.mem_cons_of_mem _ (ent_sub E k as (j + 1) q h)
    · cases x
      · exact List.mem_cons_of_mem _ (ent_sub E k as (j + 1) q h)
      · rcases List.mem_cons.mp h with h | h
        · exact List.mem_cons.mpr (Or.inl h)
        · exact List.mem_cons_of_mem _ (ent_sub E k as (j + 1) q h)
theorem ent_len (E : En) : ∀ (as : List PV), (lg_sl (as.map (real E))).length = (entL as).length
  | [] => rfl
  | v :: as => by
    have ih := ent_len E as
    rcases v with x | x | x | x
    all_goals
      simp only [lg_sl, List.map_cons, List.flatMap_cons, List.length_append, entL, List.length_cons] at ih ⊢
      rw [ih]
      simp [real, Value.category]
      try omega
def bg0 (M : MI) : Option (Nat × Nat) := if miI M = true then some (miK M, miM M) else none
theorem Con_of {M : MI} {as : List PV} {h : HS} {Q : Option PV → HS → Prop} (hp : plainName (miY M).cls = true) (ho : (miY M).cls = miO M) (hW : miW M = false) (hi : miI M = true → (miY M).name = "<init>") (hln : (entL as).length ≤ miL M) (k : T M 0 (ent M as) [] (bg0 M) h Q) : Con M as h Q := by
  intro l E
  refine Met.ofW (cc := miC M) (maxL := miL M) (ret := miR M) hp rfl ?_
  intro p e s m args below meth c s₁ B hml hv
  obtain ⟨rfl, ⟨hP, hsz, hex⟩, hK⟩ := hv
  have hx := B.exec
  have hb := B.bytes
  have hr := B.returns
  have hts := atoms_spec (ws := wsY M) B.pre
  have hown : s.vm.findClass (miY M).cls = some m.cls := findClass_of_methodNamed B.named
  have hlocks := B.notSynchronized
  have hl := lv_entry (as.map (real E)) (n := miL M) (by rw [ent_len]; exact hln)
  rw [lg_entry_eq]
  generalize (lg_sl (as.map (real E)) ++ List.replicate (miL M - (lg_sl (as.map (real E))).length) Slot.unset).toArray = la at hl ⊢
  have hbg : bgC (bg0 M) ≤ miK M ∧ bgS (bg0 M) ≤ miM M := by
    unfold bg0
    split <;> simp [bgC, bgS]
  refine k E p l e _ s m _ below meth c _ s.heap [] 0 0 la ⟨hx, hb, hml, by rw [← ho]; exact hown, fun w hw => hts w (List.mem_cons_of_mem _ hw), fun q => ?_, Nat.le_refl _, Nat.le_refl _, hK, hsz, fun q => by rw [hW] at q; cases q⟩ ?_ ⟨hP, fun q => ?_⟩ va_S.rf ?_ ?_ (lv_mono hl fun q hq => ent_sub E _ as 0 q hq)
  · rw [← hi q]
    exact (name_of_methodNamed B.named B.method).1
  · intro r h' H' locs cells slots pc la' hq hP' hex' hS' hc hs hd hok
    have hQc : ∀ (t : State) (o : Outcome), t.heap = H' → o = .returned (r.map (real E)) → QcY M E Q (as.map (real E)).toArray s o t := fun t o ht ho => ⟨r, h', hq, ho, ⟨by rw [ht]; exact hP', by rw [ht]; exact Nat.le_trans hsz hS'.1, fun q => by rw [ht]; exact hex' q⟩, hS'.F ht⟩
    refine W.widen (k := miK M) (n := miM M) hc hs ?_
    revert hr hd hok
    generalize miR M = rt
    intro hr hd hok
    cases rt with
    | none =>
      cases r with
      | none => exact W.vret hx hb hr (fun t ht _ => hQc t _ ht rfl) hS'.2.2 hd
      | some v => cases hok
    | some ty =>
      cases r with
      | none => cases ty <;> cases hok
      | some v =>
        cases ty <;> (try (cases hok; done)) <;> rcases v with x | x | x | x <;> (try (cases hok; done))
        · exact W.iret hx hb hr (fun t ht _ => hQc t _ ht rfl) hS'.2.2 hd
        · exact W.lret hx hb hr (fun t ht _ => hQc t _ ht rfl) hS'.2.2 hd
        · rcases hok with rfl | rfl
          · exact W.zret (ty := .boolean) hx hb hr rfl (fun t ht _ => hQc t _ ht rfl) hS'.2.2 hd
          · exact W.zret (ty := .boolean) hx hb hr rfl (fun t ht _ => hQc t _ ht rfl) hS'.2.2 hd
  · refine hex ?_
    unfold bg0 at q
    split at q
    · assumption
    · exact absurd rfl q
  · show 0 + bgC (bg0 M) ≤ miK M
    omega
  · show 0 + bgS (bg0 M) ≤ miM M
    omega
/-- what a method's name must say in the tables, with so many arguments (the receiver apart) -/
def MOK (M : MI) (na : Nat) : Prop := Cond.code (miY M) (miC M) (miL M) (miR M) ∈ TS ∧ Cond.initialized (miY M).cls ∈ TS ∧ ((miY M).cls ≠ "java/lang/invoke/MethodHandle" ∧ (miY M).cls ≠ "java/lang/invoke/VarHandle" ∧ (parseMethodDescriptor (miY M).desc).map (fun d => d.parameters.length) = some na)
theorem wsY_good {M : MI} {na : Nat} (h : MOK M na) : GoodIn TS (wsY M) := fun w hw => by
  rcases List.mem_cons.mp hw with rfl | hw
  · exact ⟨h.1, TS_good _ h.1⟩
  · exact ⟨hw, TS_good _ hw⟩
section RUN
variable {p : Program} {l : Launch} {e : Env} {R : Room} {s : State} {m : MethodId} {args : Array Value} {below : List Frame} {meth : Method} {c : Code} {H : Heap} {locs : List Loc} {cells slots mc ms pc : Nat} {la : Array Slot} {st0 rest : List Value} {Z : State → Prop} {M' : MI} {E : En} {a : Array Value}
theorem run_go {Q' : Option PV → HS → Prop} (hr : va_Run p l e R s m args below meth c H locs cells slots mc ms (F0 m pc la st0) rest (QcY M' E Q' a) (fun q => enB E ≤ q)) (hS : va_S (fun q => enB E ≤ q) s.heap H locs)
    (kk : ∀ (r : Option PV) (h' : HS) (H1 : Heap) (locs1 : List Loc), Q' r h' → va_P (enD E) vwCl (world E h') H1 → (miI M' = true → H1.size = enB E + h'.1) → va_S (fun q => enB E ≤ q) s.heap H1 locs1 → W p l e R s m args below meth c H1 locs1 (cells + mc) (slots + ms) Z (F0 m (pc + 3) la (r.toList.map (real E) ++ rest))) : W p l e R s m args below meth c H locs cells slots Z (F0 m pc la st0) := by
  intro T9 hT X
  obtain ⟨v, st₀, t, T', L, h0, X', hL, e1, e2, ⟨r, h', hq, hv, ⟨hP, hb, hex⟩, hF⟩, st⟩ := hr T9 hT X
  have hv : v = r.map (real E) := by cases hv; rfl
  subst hv
  obtain ⟨hz, hk⟩ := hF
  rw [h0] at hz hk
  obtain ⟨t2, a1, b1⟩ := kk r h' T'.heap (locs ++ L) hq (by rw [e1]; exact hP) (fun q => by rw [e1]; exact hex q) ⟨Nat.le_trans hS.1 (by rw [e1]; exact hz), fun q h1 h2 => by rw [e1, hk q (Nat.lt_of_lt_of_le h1 hS.1) h2]; exact hS.2.1 q h1 h2, fun q hq => by
      rcases List.mem_append.mp hq with h | h
      · exact hS.2.2 q h
      · exact hL q h⟩ T' rfl X'
  refine ⟨t2, st t2 ?_, b1⟩
  cases r <;> exact a1
end RUN
theorem PcY_blind {M' : MI} {E : En} {as : List PV} {h : HS} : FrameBlind (PcY M' E as h) := fun a U g mk q => ⟨q.1, q.2.1, Kx.same rfl q.2.2⟩
section CALL
variable {M M' : MI} {pc idx na : Nat} {ls st as rest : List PV} {h : HS} {Q : Option PV → HS → Prop} {a : Nat}
theorem T_callV {cc nf : Nat} {U : u_T} (hd : decode (miC M) pc = .ok (.invokevirtual idx, 3)) (hm : MOK M' na) (hw : Cond.methodLink (miO M) idx (miY M') ∈ TS) (hi : Cond.instanceMethod (miY M') ∈ TS) (hse : Cond.selects (miY M').cls (miY M') (miY M') ∈ TS) (hF : miF M' + 1 ≤ miF M) (hV : 8 + (miL M' + 11) + miV M' ≤ miV M) (hk : miK M' = 0 ∧ miM M' = 0 ∧ miI M' = false) (hst : st = as.reverse ++ vR a :: rest) (hn : as.length = na) (hr : (rest.map pcat).sum ≤ 8) (ha : a < h.1) (hsh : h.2.1 a = (cc, nf)) (hc : vwCl[cc]? = some ((miY M').cls, U, nf)) (hc20 : cc < 20)
    (k : Con M' (vR a :: as) h (fun r h' => T M (pc + 3) ls (r.toList ++ rest) none h' Q)) : T M pc ls st none h Q := by
  intro E p l e R s m args below meth c Z H locs cells slots la hC hR hH hS h1 h2 hl
  subst hst
  have hts := hC.2.2.2.2.1
  have hw9 := world_at E h ha
  rw [cell_obj hsh hc20] at hw9
  simp only [bgC, bgS] at h1 h2
  refine run_go (rest := rest.map (real E)) (va_runV (As := as.map (real E)) (b := enB E + a) ⟨hC.1, hC.2.1, hC.2.2.1, hC.2.2.2.1, hts⟩ (k l E) (C := (miY M').cls) (n := na) ⟨callB_of na hts (wsY_good hm) rfl rfl rfl (hts _ hm.2.1) (hts _ hw) hm.2.2 ⟨Nat.le_trans hF hC.2.2.2.2.2.2.1, Nat.le_trans hV hC.2.2.2.2.2.2.2.1⟩, hts _ hi, hts _ hse⟩ ⟨PcY_blind, va_recv hC.2.2.2.2.2.2.2.2.1.1 hH.1 hc hw9, fun U' hU hW => ⟨by simp [real], ⟨by rw [hU]; exact hH.1, by rw [hU]; exact Nat.le_trans hC.2.2.2.2.2.2.2.2.2.1 hS.1, fun q => by rw [hk.2.2] at q; cases q⟩, Kx.moved hW hC.2.2.2.2.2.2.2.2.1⟩⟩ rfl (by simpa using hn) hl.1 (by simp [real]) (lv_room (by rw [rest_cat]; exact hr)) hd ⟨by rw [hk.1]; omega, by rw [hk.2.1]; omega⟩) hS ?_
  intro r h' H1 locs1 hq hP hex hS1
  have := hq E p l e R s m args below meth c Z H1 locs1 (cells + miK M') (slots + miM M') la hC hR ⟨hP, fun q => absurd rfl q⟩ hS1 (by simp only [bgC]; rw [hk.1]; omega) (by simp only [bgS]; rw [hk.2.1]; omega) hl
  rw [List.map_append] at this
  exact this
theorem T_callS (hd : decode (miC M) pc = .ok (.invokestatic idx, 3)) (hm : MOK M' na) (hw : Cond.methodLink (miO M) idx (miY M') ∈ TS) (hi : Cond.static (miY M') ∈ TS) (hF : miF M' + 1 ≤ miF M) (hV : 8 + (miL M' + 11) + miV M' ≤ miV M) (hk : miK M' = 0 ∧ miM M' = 0 ∧ miI M' = false) (hst : st = as.reverse ++ rest) (hn : as.length = na) (hr : (rest.map pcat).sum ≤ 8)
    (k : Con M' as h (fun r h' => T M (pc + 3) ls (r.toList ++ rest) none h' Q)) : T M pc ls st none h Q := by
  intro E p l e R s m args below meth c Z H locs cells slots la hC hR hH hS h1 h2 hl
  subst hst
  have hts := hC.2.2.2.2.1
  simp only [bgC, bgS] at h1 h2
  refine run_go (rest := rest.map (real E)) (va_runS (As := as.map (real E)) ⟨hC.1, hC.2.1, hC.2.2.1, hC.2.2.2.1, hts⟩ (k l E) (n := na) ⟨callB_of na hts (wsY_good hm) rfl rfl rfl (hts _ hm.2.1) (hts _ hw) hm.2.2 ⟨Nat.le_trans hF hC.2.2.2.2.2.2.1, Nat.le_trans hV hC.2.2.2.2.2.2.2.1⟩, hts _ hi⟩ ⟨PcY_blind, fun U' hU hW => ⟨rfl, ⟨by rw [hU]; exact hH.1, by rw [hU]; exact Nat.le_trans hC.2.2.2.2.2.2.2.2.2.1 hS.1, fun q => by rw [hk.2.2] at q; cases q⟩, Kx.moved hW hC.2.2.2.2.2.2.2.2.1⟩⟩ rfl (by simpa using hn) hl.1 (by simp) (lv_room (by rw [rest_cat]; exact hr)) hd ⟨by rw [hk.1]; omega, by rw [hk.2.1]; omega⟩) hS ?_
  intro r h' H1 locs1 hq hP hex hS1
  have := hq E p l e R s m args below meth c Z H1 locs1 (cells + miK M') (slots + miM M') la hC hR ⟨hP, fun q => absurd rfl q⟩ hS1 (by simp only [bgC]; rw [hk.1]; omega) (by simp only [bgS]; rw [hk.2.1]; omega) hl
  rw [List.map_append] at this
  exact this
theorem T_callSN (hd : decode (miC M) pc = .ok (.invokestatic idx, 3)) (hm : MOK M' na) (hw : (miO M, idx, miY M') ∈ nestW) (hi : Cond.static (miY M') ∈ TS) (hF : miF M' + 1 ≤ miF M) (hV : 8 + (miL M' + 11) + miV M' ≤ miV M) (hk : miK M' = 0 ∧ miM M' = 0 ∧ miI M' = false) (hst : st = as.reverse ++ rest) (hn : as.length = na) (hr : (rest.map pcat).sum ≤ 8)
    (k : Con M' as h (fun r h' => T M (pc + 3) ls (r.toList ++ rest) none h' Q)) : T M pc ls st none h Q := by
  intro E p l e R s m args below meth c Z H locs cells slots la hC hR hH hS h1 h2 hl
  subst hst
  have hts := hC.2.2.2.2.1
  simp only [bgC, bgS] at h1 h2
  refine run_go (rest := rest.map (real E)) (va_runSN (As := as.map (real E)) ⟨hC.1, hC.2.1, hC.2.2.1, hC.2.2.2.1, hts⟩ (k l E) (n := na) ⟨va_cnB na hts (wsY_good hm) rfl rfl rfl (hC.2.2.2.2.2.2.2.2.1.2.2 _ hw) (hts _ hm.2.1) hm.2.2 ⟨Nat.le_trans hF hC.2.2.2.2.2.2.1, Nat.le_trans hV hC.2.2.2.2.2.2.2.1⟩, hts _ hi, trivial⟩ ⟨PcY_blind, fun U' hU hW => ⟨rfl, ⟨by rw [hU]; exact hH.1, by rw [hU]; exact Nat.le_trans hC.2.2.2.2.2.2.2.2.2.1 hS.1, fun q => by rw [hk.2.2] at q; cases q⟩, Kx.moved hW hC.2.2.2.2.2.2.2.2.1⟩⟩ rfl (by simpa using hn) hl.1 (by simp) (lv_room (by rw [rest_cat]; exact hr)) hd ⟨by rw [hk.1]; omega, by rw [hk.2.1]; omega⟩) hS ?_
  intro r h' H1 locs1 hq hP hex hS1
  have := hq E p l e R s m args below meth c Z H1 locs1 (cells + miK M') (slots + miM M') la hC hR ⟨hP, fun q => absurd rfl q⟩ hS1 (by simp only [bgC]; rw [hk.1]; omega) (by simp only [bgS]; rw [hk.2.1]; omega) hl
  rw [List.map_append] at this
  exact this
theorem T_callI {bc bs : Nat} (hd : decode (miC M) pc = .ok (.invokespecial idx, 3)) (hm : MOK M' na) (hw : Cond.methodLink (miO M) idx (miY M') ∈ TS ∨ (miO M, idx, miY M') ∈ nestW) (hi : Cond.instanceMethod (miY M') ∈ TS) (hnm : (miY M').name = "<init>") (hrt : miR M' = none) (hF : miF M' + 1 ≤ miF M) (hV : 8 + (miL M' + 11) + miV M' ≤ miV M) (hst : st = as.reverse ++ vR a :: rest) (hn : as.length = na) (hr : (rest.map pcat).sum ≤ 8) (hI : miI M' = true)
    (k : Con M' (vR a :: as) h (fun r h' => T M (pc + 3) ls (r.toList ++ rest) (some (bc, bs)) h' Q)) : T M pc ls st (some (bc + miK M', bs + miM M')) h Q := by
  intro E p l e R s m args below meth c Z H locs cells slots la hC hR hH hS h1 h2 hl
  subst hst
  have hts := hC.2.2.2.2.1
  simp only [bgC, bgS] at h1 h2
  have hpre : PreS s H (PcY M' E (vR a :: as) h) (.ref (enB E + a) :: as.map (real E)) := ⟨PcY_blind, fun U' hU hW => ⟨by simp [real], ⟨by rw [hU]; exact hH.1, by rw [hU]; exact Nat.le_trans hC.2.2.2.2.2.2.2.2.2.1 hS.1, fun q => by rw [hU]; exact hH.2 (by simp)⟩, Kx.moved hW hC.2.2.2.2.2.2.2.2.1⟩⟩
  have fin : ∀ (r : Option PV) (h' : HS) (H1 : Heap) (locs1 : List Loc), (T M (pc + 3) ls (r.toList ++ rest) (some (bc, bs)) h' Q) → va_P (enD E) vwCl (world E h') H1 → (miI M' = true → H1.size = enB E + h'.1) → va_S (fun q => enB E ≤ q) s.heap H1 locs1 → W p l e R s m args below meth c H1 locs1 (cells + miK M') (slots + miM M') Z (F0 m (pc + 3) la (r.toList.map (real E) ++ rest.map (real E))) := by
    intro r h' H1 locs1 hq hP hex hS1
    have := hq E p l e R s m args below meth c Z H1 locs1 (cells + miK M') (slots + miM M') la hC hR ⟨hP, fun _ => hex hI⟩ hS1 (by simp only [bgC]; omega) (by simp only [bgS]; omega) hl
    rw [List.map_append] at this
    exact this
  have hmR := hm.1
  rw [hrt] at hmR
  have hrm : wsY M' = Cond.code (miY M') (miC M') (miL M') none :: TS := by unfold wsY; rw [hrt]
  rcases hw with hw | hw
  · exact run_go (rest := rest.map (real E)) (va_runI (As := as.map (real E)) (b := enB E + a) ⟨hC.1, hC.2.1, hC.2.2.1, hC.2.2.2.1, hts⟩ (k l E) (n := na) ⟨callB_of na hts (wsY_good hm) hrm rfl rfl (hts _ hm.2.1) (hts _ hw) hm.2.2 ⟨Nat.le_trans hF hC.2.2.2.2.2.2.1, Nat.le_trans hV hC.2.2.2.2.2.2.2.1⟩, hnm, hts _ hi⟩ hpre rfl (by simpa using hn) hl.1 (by simp [real]) (lv_room (by rw [rest_cat]; exact hr)) hd ⟨by omega, by omega⟩) hS fin
  · exact run_go (rest := rest.map (real E)) (va_runIN (As := as.map (real E)) (b := enB E + a) ⟨hC.1, hC.2.1, hC.2.2.1, hC.2.2.2.1, hts⟩ (k l E) (n := na) ⟨va_cnB na hts (wsY_good hm) hrm rfl rfl (hC.2.2.2.2.2.2.2.2.1.2.2 _ hw) (hts _ hm.2.1) hm.2.2 ⟨Nat.le_trans hF hC.2.2.2.2.2.2.1, Nat.le_trans hV hC.2.2.2.2.2.2.2.1⟩, hnm, hts _ hi⟩ hpre rfl (by simpa using hn) hl.1 (by simp [real]) (lv_room (by rw [rest_cat]; exact hr)) hd ⟨by omega, by omega⟩) hS fin
end CALL
end
section
/-! THE CLAIM OUT OF ONE WALK OF THE LAW'S BODY. Your part is whole_start (and what it stands on); all else here is the same for every law, but numbers. -/
def R_law : String := "MovingThingsLaw"
def lw_P (b : Addr) (xs : List Int32) (args : Array Value) (s : State) : Prop := args = #[.ref b] ∧ s.IntsAt b xs ∧ xs.length ≤ 4096 ∧ (Jvm.Cond.and given_1 narrow_1).before args s = true
def lw_Q (_ : Array Value) (s : State) (o : Outcome) (t : State) : Prop := o = .returned (some (.int 1)) ∧ Framed s o t [] 600000 7302250
def lw_Z (below : List Frame) (a : Array Value) (s : State) : State → Prop := fun t => ∃ o, t.status = .running ∧ Ended t below o ∧ lw_Q a s o t
/-- the law's own end, with 1 on the stack, nothing written that was there before, its room as the claim has it -/
theorem lw_ret {p : Program} {l : Launch} {e : Env} {s : State} {m : MethodId} {below : List Frame} {meth : Method} {c : Code} {b : Nat} (hx : p.tables.exec = Jvm.exec) (hb : c.code = code) (hr : meth.sig.returnType = ret) (hlocks : meth.locks = false) {pc : Nat} {H : Heap} {ls : Array Slot} (hdg : decode code pc = .ok (.ireturn, 1)) : W p l e room_1 s m #[Value.ref b] below meth c H [] 600000 7302250 (lw_Z below #[Value.ref b] s) (F0 m pc ls [.int 1]) := by
  intro T hT X
  obtain ⟨fs, hret, hrun, hended, hW, hframe⟩ := X.leave (v := some (.int 1)) (hlocks := hlocks) (fun h => by rw [hr] at h; cases h)
  have hmeth' : T.vm.method? m = some meth := X.method'
  refine ⟨T.setFrames fs, ?_, .returned (some (.int 1)), hrun, hended, rfl, ⟨_, rfl⟩, hW, hframe⟩
  jvm_step X.here [X.here.top, hx, hb, hdg, hmeth', hr, ret, narrow_b1]
  (try refine ⟨rfl, ?_⟩); (try refine ⟨rfl, ?_⟩)
  first | (intro acts; rw [hret _ acts rfl rfl rfl]) | rw [hret _ _ rfl rfl rfl]
  exact Steps.refl _
/-- what holds at the law's entry: the machine, the code, the tables' words (any of lw_tbl by 'hts w (by decide +kernel)'), the script of L ints xs at the cell b, what the Statement gives of the start (any of its parts by flat_of_before) -/
def lw_At (p : Program) (s : State) (m : MethodId) (meth : Method) (c : Code) (b L : Nat) (xs : Nat → Int32) : Prop :=
  p.tables.exec = Jvm.exec ∧ c.code = code ∧ meth.sig.returnType = ret ∧ c.maxLocals = 4 ∧ s.vm.findClass R_law = some m.cls ∧ (∀ w ∈ lw_tbl, w.before #[Value.ref b] s = true) ∧ va_X b L xs s s.heap ∧ b < s.heap.size ∧ meth.locks = false ∧ (Jvm.Cond.and given_1 narrow_1).before #[Value.ref b] s = true
theorem fb_rng9 (x : Int32) : R32 x.toInt := ⟨Int32.le_toInt x, Int32.toInt_lt x⟩
def mLaw (L : Nat) (xs : Nat → Int) : MI := (RL, cL_law, 4, some .boolean, false, true, 9, 352, 600000, 7302250, yL_law, (L, xs))
def hs0 : HS := (0, fun _ => (0, 0), fun _ _ => 0)
set_option maxHeartbeats 1000000 in
/-- the claim's walk out of the picture's walk -/
theorem start_of (hT : ∀ (L : Nat) (xs : Nat → Int), L ≤ 4096 → (∀ j, R32 (xs j)) → T (mLaw L xs) 0 [vS, vU, vU, vU] [] (some (600000, 7302250)) hs0 (fun r _ => r = some (vI 1))) {p : Program} {e : Env} {s : State} {m : MethodId} {below : List Frame} {meth : Method} {c : Code} (l : Launch) {b L : Nat} {xs : Nat → Int32} (hL : L ≤ 4096) (C0 : lw_At p s m meth c b L xs) : W p l e room_1 s m #[Value.ref b] below meth c s.heap [] 0 0 (lw_Z below #[Value.ref b] s) (entryFrame m ([Value.ref b] : List Value).toArray 4) := by
  obtain ⟨hx, hb, hr, hml, hown, htb, hX, hbl, hlocks, hgv⟩ := C0
  have hts : ∀ w ∈ TS, w.before #[Value.ref b] s = true := fun w hw => htb w (TS_tbl w hw)
  obtain ⟨c0, i0, k0⟩ := u_known (C := RX0) (T := TX0) (N := 1) (n := 1) hts inX0 (hts _ ist_X0)
  obtain ⟨c1, i1, k1⟩ := u_known (C := RX1) (T := TX1) (N := 1) (n := 1) hts inX1 (hts _ ist_X1)
  obtain ⟨c2, i2, k2⟩ := u_known (C := RX2) (T := TX2) (N := 15) (n := 15) hts inX2 (hts _ ist_X2)
  obtain ⟨c3, i3, k3⟩ := u_known (C := RX3) (T := TX3) (N := 4) (n := 4) hts inX3 (hts _ ist_X3)
  obtain ⟨c4, i4, k4⟩ := u_known (C := RX4) (T := TX4) (N := 4) (n := 4) hts inX4 (hts _ ist_X4)
  obtain ⟨c5, i5, k5⟩ := u_known (C := RX5) (T := TX5) (N := 3) (n := 3) hts inX5 (hts _ ist_X5)
  obtain ⟨c6, i6, k6⟩ := u_known (C := RX6) (T := TX6) (N := 3) (n := 3) hts inX6 (hts _ ist_X6)
  obtain ⟨c7, i7, k7⟩ := u_known (C := RX7) (T := TX7) (N := 3) (n := 3) hts inX7 (hts _ ist_X7)
  obtain ⟨c8, i8, k8⟩ := u_known (C := RX8) (T := TX8) (N := 5) (n := 5) hts inX8 (hts _ ist_X8)
  obtain ⟨c9, i9, k9⟩ := u_known (C := RX9) (T := TX9) (N := 14) (n := 14) hts inX9 (hts _ ist_X9)
  obtain ⟨c10, i10, k10⟩ := u_known (C := RX10) (T := TX10) (N := 32) (n := 32) hts inX10 (hts _ ist_X10)
  obtain ⟨aI, kI, pI, fI1, fI2, fI3⟩ := Cond.arrayClass_spec (hts _ ac_int)
  obtain ⟨aJ, kJ, pJ, fJ1, fJ2, fJ3⟩ := Cond.arrayClass_spec (hts _ ac_long)
  obtain ⟨aZ, kZ, pZ, fZ1, fZ2, fZ3⟩ := Cond.arrayClass_spec (hts _ ac_boolean)
  obtain ⟨pT, aT, kT, fT0, -, fT2, fT3, fT1⟩ := Cond.arrayOver_spec (htb _ ao_X8)
  obtain ⟨pP, aP, kP, fP0, -, fP2, fP3, fP1⟩ := Cond.arrayOver_spec (htb _ ao_X3)
  obtain ⟨E, hE⟩ : ∃ E : En, E = (s.heap.size, b, L, xs, (fun k => match k with | 0 => c0 | 1 => c1 | 2 => c2 | 3 => c3 | 4 => c4 | 5 => c5 | 6 => c6 | 7 => c7 | 8 => c8 | 9 => c9 | _ => c10, fun k => match k with | 0 => i0 | 1 => i1 | 2 => i2 | 3 => i3 | 4 => i4 | 5 => i5 | 6 => i6 | 7 => i7 | 8 => i8 | 9 => i9 | _ => i10), fun k => if k = 20 then aI else if k = 21 then aJ else if k = 22 then aZ else if k = 23 then aT else aP) := ⟨_, rfl⟩
  have hK : Kx E s := by
    subst hE
    refine ⟨⟨?_, ?_⟩, ⟨htb _ ao_X8, htb _ ao_X3⟩, List.forall_mem_cons.mpr ⟨va_Nw.of rfl (htb _ mn_X9_21), List.forall_mem_cons.mpr ⟨va_Nw.of rfl (htb _ mn_X9_28), List.forall_mem_cons.mpr ⟨va_Nw.of rfl (htb _ mn_X9_38), List.forall_mem_cons.mpr ⟨va_Nw.of rfl (htb _ mn_X9_45), List.forall_mem_cons.mpr ⟨va_Nw.of rfl (htb _ mn_X9_52), List.forall_mem_cons.mpr ⟨va_Nw.of rfl (htb _ mn_X9_59), List.forall_mem_cons.mpr ⟨va_Nw.of rfl (htb _ mn_X9_66), List.forall_mem_cons.mpr ⟨va_Nw.of rfl (htb _ mn_X9_85), List.forall_mem_cons.mpr ⟨va_Nw.of rfl (htb _ mn_X4_26), List.forall_mem_cons.mpr ⟨va_Nw.of rfl (htb _ mn_X1_15), fun _ h => absurd h List.not_mem_nil⟩⟩⟩⟩⟩⟩⟩⟩⟩⟩⟩
    · intro k q hq
      match k, hq with
      | 0, hq => cases hq; exact k0
      | 1, hq => cases hq; exact k1
      | 2, hq => cases hq; exact k2
      | 3, hq => cases hq; exact k3
      | 4, hq => cases hq; exact k4
      | 5, hq => cases hq; exact k5
      | 6, hq => cases hq; exact k6
      | 7, hq => cases hq; exact k7
      | 8, hq => cases hq; exact k8
      | 9, hq => cases hq; exact k9
      | 10, hq => cases hq; exact k10
      | k + 11, hq => simp [vwCl] at hq
    · intro k q hq
      have ar : ∀ (cA : ClassId) (kA : Class) (comp : ClassId) (ty : FieldType), s.vm.classes[cA]? = some kA → kA.kind = .array comp ty → ArrOfT s cA ty := fun cA kA comp ty h2 h3 n z => ⟨fun k h => (by cases h), kA, h2, comp, h3⟩
      match k, hq with
      | 0, hq => cases hq; exact ⟨ar _ _ _ _ fI2 fI3, fI1⟩
      | 1, hq => cases hq; exact ⟨ar _ _ _ _ fJ2 fJ3, fJ1⟩
      | 2, hq => cases hq; exact ⟨ar _ _ _ _ fZ2 fZ3, fZ1⟩
      | 3, hq => cases hq; exact ⟨ar _ _ _ _ fT2 fT3, kT, pT, fT2, fT3, fT0, fT1⟩
      | 4, hq => cases hq; exact ⟨ar _ _ _ _ fP2 fP3, kP, pP, fP2, fP3, fP0, fP1⟩
      | k + 5, hq => simp [tysE] at hq
  have hB : enB E = s.heap.size := by rw [hE]
  have hl := lv_entry ([.ref b]) (n := 4) (Nat.le_of_ble_eq_true rfl)
  rw [lg_entry_eq]
  generalize (lg_sl ([.ref b]) ++ List.replicate (4 - (lg_sl ([.ref b])).length) Slot.unset).toArray = la at hl ⊢
  refine hT L (fun j => (xs j).toInt) hL (fun j => fb_rng9 (xs j)) E p l e room_1 s m _ below meth c _ s.heap [] 0 0 la ⟨hx, hb, hml, hown, hts, fun q => (by cases q), Nat.le_refl _, Nat.le_refl _, hK, Nat.le_of_eq hB, fun _ => ⟨by rw [hE]; exact hX, by rw [hE]; exact hbl, by rw [hE]; exact hbl, by rw [hE]; rfl, fun j => by rw [hE]; exact (Int32.ofInt_toInt _).symm⟩⟩ ?_ ⟨fun k q hq => ?_, fun _ => hB.symm⟩ va_S.rf (Nat.le_of_eq (Nat.zero_add _)) (Nat.le_of_eq (Nat.zero_add _)) (lv_mono hl fun q hq => ?_)
  · intro r h H locs cells slots pc la' hq hP _ hS hc hs hd hok
    subst hq
    refine va_forget (fun q hq => by rw [← hB]; exact hS.2.2 q hq) ?_
    refine W.widen (k := 600000) (n := 7302250) hc hs ?_
    exact lw_ret hx hb hr hlocks hd
  · exact absurd hq (by simp [world, hs0])
  · have hq : q ∈ [(0, real E vS)] := hq
    rw [List.mem_singleton.mp hq, hE]
    exact List.mem_cons_self
end
section
/-! the world once both objects are made: shapes and references never change; a memory σ holds the numbers -/
def SHL : List (Nat × Nat) := [(9, 14), (23, 10), (24, 6), (3, 4), (6, 3), (6, 3), (5, 3), (20, 100), (20, 100), (4, 4), (20, 10), (21, 10), (21, 10), (2, 15), (0, 1), (20, 1380), (0, 1), (20, 1380), (20, 230), (20, 1150), (20, 230), (20, 230), (22, 230), (20, 5), (20, 5), (0, 1), (20, 6), (0, 1), (20, 6), (7, 3), (20, 24), (20, 24), (1, 1), (20, 10), (8, 5), (20, 24), (20, 24), (20, 24), (8, 5), (20, 24), (20, 24), (20, 24), (8, 5), (20, 24), (20, 24), (20, 24), (8, 5), (20, 24), (20, 24), (20, 24), (8, 5), (20, 24), (20, 24), (20, 24), (8, 5), (20, 24), (20, 24), (20, 24), (8, 5), (20, 24), (20, 24), (20, 24), (8, 5), (20, 24), (20, 24), (20, 24), (8, 5), (20, 24), (20, 24), (20, 24), (8, 5), (20, 24), (20, 24), (20, 24), (3, 4), (3, 4), (3, 4), (3, 4), (3, 4), (3, 4), (10, 32), (20, 10), (20, 240), (20, 240), (20, 240), (20, 10), (20, 200), (20, 200), (20, 1440), (20, 3000), (22, 500), (20, 500), (20, 500), (20, 500), (20, 2500), (20, 5), (20, 5), (20, 6), (20, 24), (20, 24), (20, 24)]
def SH (a : Nat) : Nat × Nat := SHL.getD a (0, 0)
def RSL : List (List Int) := [[1, 2, 3, 4, 5, 6, 9, 13, 29, 32, -1, -1, -1, -1], [34, 38, 42, 46, 50, 54, 58, 62, 66, 70], [74, 75, 76, 77, 78, 79], [], [], [], [7, 8, -1], [], [], [10, 11, 12, -1], [], [], [], [14, 16, 18, 19, 20, 21, 22, 23, 24, 25, 27, -1, -1, -1, -1], [15], [], [17], [], [], [], [], [], [], [], [], [26], [], [28], [], [30, 31, -1], [], [], [33], [], [35, 36, 37, -1, -1], [], [], [], [39, 40, 41, -1, -1], [], [], [], [43, 44, 45, -1, -1], [], [], [], [47, 48, 49, -1, -1], [], [], [], [51, 52, 53, -1, -1], [], [], [], [55, 56, 57, -1, -1], [], [], [], [59, 60, 61, -1, -1], [], [], [], [63, 64, 65, -1, -1], [], [], [], [67, 68, 69, -1, -1], [], [], [], [71, 72, 73, -1, -1], [], [], [], [], [], [], [], [], [], [81, 82, 83, 84, 85, -1, -1, -1, -1, -1, -1, 86, 87, -1, -1, -1, 88, -1, 89, 90, 91, 92, 93, 94, 95, 96, 97, 98, 99, -1, -1, 100], [], [], [], [], [], [], [], [], [], [], [], [], [], [], [], [], [], [], [], []]
def RS (a k : Nat) : Int := (RSL.getD a []).getD k (-1)
abbrev N0 : Nat := 101
def rsl (a k : Nat) : Bool := if (SH a).1 = 23 ∨ (SH a).1 = 24 then true else if (SH a).1 < 20 then isRefT (tyC (SH a).1 k) else false
def mrg (σ : Mem) : Mem := fun a k => if rsl a k = true then RS a k else σ a k
def hsm (σ : Mem) : HS := (N0, SH, mrg σ)
theorem rsl_obj {a c n k : Nat} (h : SH a = (c, n)) (hc : c < 20) : rsl a k = isRefT (tyC c k) := by
  unfold rsl
  rw [h]
  rw [if_neg (by show ¬ (c = 23 ∨ c = 24); omega), if_pos (by show c < 20; omega)]
theorem rsl_arr {a c n k : Nat} (h : SH a = (c, n)) (hc : c = 20 ∨ c = 21 ∨ c = 22) : rsl a k = false := by
  unfold rsl
  rw [h]
  rw [if_neg (by show ¬ (c = 23 ∨ c = 24); omega), if_neg (by show ¬ c < 20; omega)]
theorem mrg_n {σ : Mem} {a k : Nat} (h : rsl a k = false) : mrg σ a k = σ a k := by
  unfold mrg
  rw [if_neg (by rw [h]; decide)]
theorem mrg_r {σ : Mem} {a k : Nat} (h : rsl a k = true) : mrg σ a k = RS a k := by
  unfold mrg
  rw [if_pos h]
theorem mrg_up {σ : Mem} {a k : Nat} {v : Int} (h : rsl a k = false) : up (mrg σ) a k v = mrg (up σ a k v) := by
  funext b j
  unfold up mrg
  dsimp only
  by_cases e : b = a ∧ j = k
  · rw [if_pos e, if_neg (by rw [e.1, e.2, h]; decide), if_pos e]
  · rw [if_neg e, if_neg e]
theorem mrg_cpy {σ : Mem} {a b sp dp m n n2 : Nat} (ha : SH a = (20, n)) (hb : SH b = (20, n2)) : mcpy (mrg σ) a b sp dp m = mrg (mcpy σ a b sp dp m) := by
  funext x j
  unfold mcpy
  by_cases e : x = b ∧ dp ≤ j ∧ j < dp + m
  · rw [if_pos e, mrg_n (rsl_arr ha (Or.inl rfl)), mrg_n (by rw [e.1]; exact rsl_arr hb (Or.inl rfl)), if_pos e]
  · rw [if_neg e]
    unfold mrg
    dsimp only
    rw [if_neg e]
def TT (M : MI) (pc : Nat) (ls st : List PV) (σ : Mem) (P : Option PV → Mem → Prop) : Prop := ∀ Q : Option PV → HS → Prop, (∀ r σ', P r σ' → Q r (hsm σ')) → T M pc ls st none (hsm σ) Q
def CC (M : MI) (as : List PV) (σ : Mem) (P : Option PV → Mem → Prop) : Prop := ∀ Q : Option PV → HS → Prop, (∀ r σ', P r σ' → Q r (hsm σ')) → Con M as (hsm σ) Q
def PI (K : Int → Mem → Prop) : Option PV → Mem → Prop := fun r σ => ∃ x, r = some (vI x) ∧ K x σ
def PJ (K : Int → Mem → Prop) : Option PV → Mem → Prop := fun r σ => ∃ x, r = some (vL x) ∧ K x σ
def PN (K : Mem → Prop) : Option PV → Mem → Prop := fun r σ => r = none ∧ K σ
theorem TT.mono {M : MI} {pc : Nat} {ls st : List PV} {σ : Mem} {P P' : Option PV → Mem → Prop} (h : TT M pc ls st σ P) (hp : ∀ r σ', P r σ' → P' r σ') : TT M pc ls st σ P' := fun Q hQ => h Q fun r σ' q => hQ r σ' (hp r σ' q)
theorem CC.mono {M : MI} {as : List PV} {σ : Mem} {P P' : Option PV → Mem → Prop} (h : CC M as σ P) (hp : ∀ r σ', P r σ' → P' r σ') : CC M as σ P' := fun Q hQ => h Q fun r σ' q => hQ r σ' (hp r σ' q)
theorem CC_of {M : MI} {as : List PV} {σ : Mem} {P : Option PV → Mem → Prop} (hp : plainName (miY M).cls = true) (ho : (miY M).cls = miO M) (hW : miW M = false) (hi : miI M = false) (hln : (entL as).length ≤ miL M) (k : TT M 0 (ent M as) [] σ P) : CC M as σ P := fun Q hQ => Con_of hp ho hW (fun q => by rw [hi] at q; cases q) hln (by
  have e9 : bg0 M = none := by unfold bg0; rw [hi]; rfl
  rw [e9]
  exact k Q hQ)
theorem TT.cast {M : MI} {pc : Nat} {ls ls' st st' : List PV} {σ : Mem} {P : Option PV → Mem → Prop} (h : TT M pc ls' st' σ P) (e1 : ls' = ls) (e2 : st' = st) : TT M pc ls st σ P := by
  subst e1
  subst e2
  exact h
theorem TT_kill {M : MI} {pc : Nat} {ls ls' st : List PV} {σ : Mem} {P : Option PV → Mem → Prop} (i : Nat) (hs : ls.set i vU = ls') (h : TT M pc ls' st σ P) : TT M pc ls st σ P := by
  intro Q hQ E p l e R s m args below meth c Z H locs cells slots la hC hR hH hS h1 h2 hl
  subst hs
  refine h Q hQ E p l e R s m args below meth c Z H locs cells slots la hC hR hH hS h1 h2 (lv_mono hl fun q hq => ?_)
  obtain ⟨k, w, a1, a2, rfl⟩ := lvl_inv E _ 0 q hq
  rcases set_get a1 with ⟨rfl, rfl⟩ | ⟨hk, a3⟩
  · exact absurd rfl a2
  · exact lvl_mem E ls 0 k w a3 a2
theorem TT_iadd {M : MI} {pc : Nat} {ls st : List PV} {σ : Mem} {P : Option PV → Mem → Prop} {a b : Int} (hd : decode (miC M) pc = .ok (.iadd, 1)) (k : TT M (pc + 1) ls (vI (a + b) :: st) σ P) : TT M pc ls (vI b :: vI a :: st) σ P := fun Q hQ => T_iadd hd (k Q hQ)
theorem TT_isub {M : MI} {pc : Nat} {ls st : List PV} {σ : Mem} {P : Option PV → Mem → Prop} {a b : Int} (hd : decode (miC M) pc = .ok (.isub, 1)) (k : TT M (pc + 1) ls (vI (a - b) :: st) σ P) : TT M pc ls (vI b :: vI a :: st) σ P := fun Q hQ => T_isub hd (k Q hQ)
theorem TT_imul {M : MI} {pc : Nat} {ls st : List PV} {σ : Mem} {P : Option PV → Mem → Prop} {a b : Int} (hd : decode (miC M) pc = .ok (.imul, 1)) (k : TT M (pc + 1) ls (vI (a * b) :: st) σ P) : TT M pc ls (vI b :: vI a :: st) σ P := fun Q hQ => T_imul hd (k Q hQ)
theorem TT_ladd {M : MI} {pc : Nat} {ls st : List PV} {σ : Mem} {P : Option PV → Mem → Prop} {a b : Int} (hd : decode (miC M) pc = .ok (.ladd, 1)) (k : TT M (pc + 1) ls (vL (a + b) :: st) σ P) : TT M pc ls (vL b :: vL a :: st) σ P := fun Q hQ => T_ladd hd (k Q hQ)
theorem TT_lsub {M : MI} {pc : Nat} {ls st : List PV} {σ : Mem} {P : Option PV → Mem → Prop} {a b : Int} (hd : decode (miC M) pc = .ok (.lsub, 1)) (k : TT M (pc + 1) ls (vL (a - b) :: st) σ P) : TT M pc ls (vL b :: vL a :: st) σ P := fun Q hQ => T_lsub hd (k Q hQ)
theorem TT_lmul {M : MI} {pc : Nat} {ls st : List PV} {σ : Mem} {P : Option PV → Mem → Prop} {a b : Int} (hd : decode (miC M) pc = .ok (.lmul, 1)) (k : TT M (pc + 1) ls (vL (a * b) :: st) σ P) : TT M pc ls (vL b :: vL a :: st) σ P := fun Q hQ => T_lmul hd (k Q hQ)
theorem TT_ineg {M : MI} {pc : Nat} {ls st : List PV} {σ : Mem} {P : Option PV → Mem → Prop} {a : Int} (hd : decode (miC M) pc = .ok (.ineg, 1)) (k : TT M (pc + 1) ls (vI (-a) :: st) σ P) : TT M pc ls (vI a :: st) σ P := fun Q hQ => T_ineg hd (k Q hQ)
theorem TT_lneg {M : MI} {pc : Nat} {ls st : List PV} {σ : Mem} {P : Option PV → Mem → Prop} {a : Int} (hd : decode (miC M) pc = .ok (.lneg, 1)) (k : TT M (pc + 1) ls (vL (-a) :: st) σ P) : TT M pc ls (vL a :: st) σ P := fun Q hQ => T_lneg hd (k Q hQ)
theorem TT_idiv {M : MI} {pc : Nat} {ls st : List PV} {σ : Mem} {P : Option PV → Mem → Prop} {a b : Int} (hd : decode (miC M) pc = .ok (.idiv, 1)) (ha : R32 a) (hb : R32 b) (hn : b ≠ 0) (k : TT M (pc + 1) ls (vI (a.tdiv b) :: st) σ P) : TT M pc ls (vI b :: vI a :: st) σ P := fun Q hQ => T_idiv hd ha hb hn (k Q hQ)
theorem TT_irem {M : MI} {pc : Nat} {ls st : List PV} {σ : Mem} {P : Option PV → Mem → Prop} {a b : Int} (hd : decode (miC M) pc = .ok (.irem, 1)) (ha : R32 a) (hb : R32 b) (hn : b ≠ 0) (k : TT M (pc + 1) ls (vI (a.tmod b) :: st) σ P) : TT M pc ls (vI b :: vI a :: st) σ P := fun Q hQ => T_irem hd ha hb hn (k Q hQ)
theorem TT_ldiv {M : MI} {pc : Nat} {ls st : List PV} {σ : Mem} {P : Option PV → Mem → Prop} {a b : Int} (hd : decode (miC M) pc = .ok (.ldiv, 1)) (ha : R64 a) (hb : R64 b) (hn : b ≠ 0) (k : TT M (pc + 1) ls (vL (a.tdiv b) :: st) σ P) : TT M pc ls (vL b :: vL a :: st) σ P := fun Q hQ => T_ldiv hd ha hb hn (k Q hQ)
theorem TT_lrem {M : MI} {pc : Nat} {ls st : List PV} {σ : Mem} {P : Option PV → Mem → Prop} {a b : Int} (hd : decode (miC M) pc = .ok (.lrem, 1)) (ha : R64 a) (hb : R64 b) (hn : b ≠ 0) (k : TT M (pc + 1) ls (vL (a.tmod b) :: st) σ P) : TT M pc ls (vL b :: vL a :: st) σ P := fun Q hQ => T_lrem hd ha hb hn (k Q hQ)
theorem TT_i2l {M : MI} {pc : Nat} {ls st : List PV} {σ : Mem} {P : Option PV → Mem → Prop} {a : Int} (hd : decode (miC M) pc = .ok (.i2l, 1)) (ha : R32 a) (k : TT M (pc + 1) ls (vL a :: st) σ P) : TT M pc ls (vI a :: st) σ P := fun Q hQ => T_i2l hd ha (k Q hQ)
theorem TT_l2i {M : MI} {pc : Nat} {ls st : List PV} {σ : Mem} {P : Option PV → Mem → Prop} {a : Int} (hd : decode (miC M) pc = .ok (.l2i, 1)) (k : TT M (pc + 1) ls (vI a :: st) σ P) : TT M pc ls (vL a :: st) σ P := fun Q hQ => T_l2i hd (k Q hQ)
theorem TT_iand31 {M : MI} {pc : Nat} {ls st : List PV} {σ : Mem} {P : Option PV → Mem → Prop} {a : Int} (hd : decode (miC M) pc = .ok (.iand, 1)) (ha : R32 a) (k : TT M (pc + 1) ls (vI (a % 32) :: st) σ P) : TT M pc ls (vI 31 :: vI a :: st) σ P := fun Q hQ => T_iand31 hd ha (k Q hQ)
theorem TT_iconst {M : MI} {pc : Nat} {ls st : List PV} {σ : Mem} {P : Option PV → Mem → Prop} {n : Int} (hd : decode (miC M) pc = .ok (.iconst n, 1)) (k : TT M (pc + 1) ls (vI n :: st) σ P) : TT M pc ls st σ P := fun Q hQ => T_iconst hd (k Q hQ)
theorem TT_bipush {M : MI} {pc : Nat} {ls st : List PV} {σ : Mem} {P : Option PV → Mem → Prop} {n : Int} (hd : decode (miC M) pc = .ok (.bipush n, 2)) (hn : (Int8.ofInt n).toInt32 = Int32.ofInt n) (k : TT M (pc + 2) ls (vI n :: st) σ P) : TT M pc ls st σ P := fun Q hQ => T_bipush hd hn (k Q hQ)
theorem TT_sipush {M : MI} {pc : Nat} {ls st : List PV} {σ : Mem} {P : Option PV → Mem → Prop} {n : Int} (hd : decode (miC M) pc = .ok (.sipush n, 3)) (hn : (Int16.ofInt n).toInt32 = Int32.ofInt n) (k : TT M (pc + 3) ls (vI n :: st) σ P) : TT M pc ls st σ P := fun Q hQ => T_sipush hd hn (k Q hQ)
theorem TT_lconst {M : MI} {pc : Nat} {ls st : List PV} {σ : Mem} {P : Option PV → Mem → Prop} {n : Fin 2} {x : Int} (hd : decode (miC M) pc = .ok (.lconst n, 1)) (hx : Int64.ofNat (n : Nat) = Int64.ofInt x) (k : TT M (pc + 1) ls (vL x :: st) σ P) : TT M pc ls st σ P := fun Q hQ => T_lconst hd hx (k Q hQ)
theorem TT_ldc {M : MI} {pc : Nat} {ls st : List PV} {σ : Mem} {P : Option PV → Mem → Prop} {i : Nat} {n : Int32} {x : Int} (hd : decode (miC M) pc = .ok (.ldc i, 2)) (hw : Cond.constant (miO M) i n ∈ TS) (hx : n = Int32.ofInt x) (k : TT M (pc + 2) ls (vI x :: st) σ P) : TT M pc ls st σ P := fun Q hQ => T_ldc hd hw hx (k Q hQ)
theorem TT_ldc2 {M : MI} {pc : Nat} {ls st : List PV} {σ : Mem} {P : Option PV → Mem → Prop} {i : Nat} {n : Int64} {x : Int} (hd : decode (miC M) pc = .ok (.ldc2_w i, 3)) (hw : Cond.constantLong (miO M) i n ∈ TS) (hx : n = Int64.ofInt x) (k : TT M (pc + 3) ls (vL x :: st) σ P) : TT M pc ls st σ P := fun Q hQ => T_ldc2 hd hw hx (k Q hQ)
theorem TT_dup {M : MI} {pc : Nat} {ls st : List PV} {σ : Mem} {P : Option PV → Mem → Prop} {v : PV} (hd : decode (miC M) pc = .ok (.dup, 1)) (hc : pcat v = 1) (k : TT M (pc + 1) ls (v :: v :: st) σ P) : TT M pc ls (v :: st) σ P := fun Q hQ => T_dup hd hc (k Q hQ)
theorem TT_dup2 {M : MI} {pc : Nat} {ls st : List PV} {σ : Mem} {P : Option PV → Mem → Prop} {v w : PV} (hd : decode (miC M) pc = .ok (.dup2, 1)) (hc : pcat v = 1) (hw : pcat w = 1) (k : TT M (pc + 1) ls (v :: w :: v :: w :: st) σ P) : TT M pc ls (v :: w :: st) σ P := fun Q hQ => T_dup2 hd hc hw (k Q hQ)
theorem TT_goto {M : MI} {pc : Nat} {ls st : List PV} {σ : Mem} {P : Option PV → Mem → Prop} {off : Int} {tgt : Nat} (hd : decode (miC M) pc = .ok (.goto off, 3)) (ht : (pc : Int) + off = (tgt : Int)) (k : TT M tgt ls st σ P) : TT M pc ls st σ P := fun Q hQ => T_goto hd ht (k Q hQ)
theorem TT_icmp_eq {M : MI} {pc : Nat} {ls st : List PV} {σ : Mem} {P : Option PV → Mem → Prop} {a b : Int} {off : Int} {tgt : Nat} (hd : decode (miC M) pc = .ok (.if_icmp .eq off, 3)) (ht : (pc : Int) + off = (tgt : Int)) (ha : R32 a) (hb : R32 b) (kt : a = b → TT M tgt ls st σ P) (kf : ¬ a = b → TT M (pc + 3) ls st σ P) : TT M pc ls (vI b :: vI a :: st) σ P := fun Q hQ => T_icmp_eq hd ht ha hb (fun q => kt q Q hQ) (fun q => kf q Q hQ)
theorem TT_if_eq {M : MI} {pc : Nat} {ls st : List PV} {σ : Mem} {P : Option PV → Mem → Prop} {a : Int} {off : Int} {tgt : Nat} (hd : decode (miC M) pc = .ok (.ifCond .eq off, 3)) (ht : (pc : Int) + off = (tgt : Int)) (ha : R32 a) (kt : a = 0 → TT M tgt ls st σ P) (kf : ¬ a = 0 → TT M (pc + 3) ls st σ P) : TT M pc ls (vI a :: st) σ P := fun Q hQ => T_if_eq hd ht ha (fun q => kt q Q hQ) (fun q => kf q Q hQ)
theorem TT_icmp_ne {M : MI} {pc : Nat} {ls st : List PV} {σ : Mem} {P : Option PV → Mem → Prop} {a b : Int} {off : Int} {tgt : Nat} (hd : decode (miC M) pc = .ok (.if_icmp .ne off, 3)) (ht : (pc : Int) + off = (tgt : Int)) (ha : R32 a) (hb : R32 b) (kt : ¬ a = b → TT M tgt ls st σ P) (kf : a = b → TT M (pc + 3) ls st σ P) : TT M pc ls (vI b :: vI a :: st) σ P := fun Q hQ => T_icmp_ne hd ht ha hb (fun q => kt q Q hQ) (fun q => kf q Q hQ)
theorem TT_if_ne {M : MI} {pc : Nat} {ls st : List PV} {σ : Mem} {P : Option PV → Mem → Prop} {a : Int} {off : Int} {tgt : Nat} (hd : decode (miC M) pc = .ok (.ifCond .ne off, 3)) (ht : (pc : Int) + off = (tgt : Int)) (ha : R32 a) (kt : ¬ a = 0 → TT M tgt ls st σ P) (kf : a = 0 → TT M (pc + 3) ls st σ P) : TT M pc ls (vI a :: st) σ P := fun Q hQ => T_if_ne hd ht ha (fun q => kt q Q hQ) (fun q => kf q Q hQ)
theorem TT_icmp_lt {M : MI} {pc : Nat} {ls st : List PV} {σ : Mem} {P : Option PV → Mem → Prop} {a b : Int} {off : Int} {tgt : Nat} (hd : decode (miC M) pc = .ok (.if_icmp .lt off, 3)) (ht : (pc : Int) + off = (tgt : Int)) (ha : R32 a) (hb : R32 b) (kt : a < b → TT M tgt ls st σ P) (kf : ¬ a < b → TT M (pc + 3) ls st σ P) : TT M pc ls (vI b :: vI a :: st) σ P := fun Q hQ => T_icmp_lt hd ht ha hb (fun q => kt q Q hQ) (fun q => kf q Q hQ)
theorem TT_if_lt {M : MI} {pc : Nat} {ls st : List PV} {σ : Mem} {P : Option PV → Mem → Prop} {a : Int} {off : Int} {tgt : Nat} (hd : decode (miC M) pc = .ok (.ifCond .lt off, 3)) (ht : (pc : Int) + off = (tgt : Int)) (ha : R32 a) (kt : a < 0 → TT M tgt ls st σ P) (kf : ¬ a < 0 → TT M (pc + 3) ls st σ P) : TT M pc ls (vI a :: st) σ P := fun Q hQ => T_if_lt hd ht ha (fun q => kt q Q hQ) (fun q => kf q Q hQ)
theorem TT_icmp_ge {M : MI} {pc : Nat} {ls st : List PV} {σ : Mem} {P : Option PV → Mem → Prop} {a b : Int} {off : Int} {tgt : Nat} (hd : decode (miC M) pc = .ok (.if_icmp .ge off, 3)) (ht : (pc : Int) + off = (tgt : Int)) (ha : R32 a) (hb : R32 b) (kt : b ≤ a → TT M tgt ls st σ P) (kf : ¬ b ≤ a → TT M (pc + 3) ls st σ P) : TT M pc ls (vI b :: vI a :: st) σ P := fun Q hQ => T_icmp_ge hd ht ha hb (fun q => kt q Q hQ) (fun q => kf q Q hQ)
theorem TT_if_ge {M : MI} {pc : Nat} {ls st : List PV} {σ : Mem} {P : Option PV → Mem → Prop} {a : Int} {off : Int} {tgt : Nat} (hd : decode (miC M) pc = .ok (.ifCond .ge off, 3)) (ht : (pc : Int) + off = (tgt : Int)) (ha : R32 a) (kt : 0 ≤ a → TT M tgt ls st σ P) (kf : ¬ 0 ≤ a → TT M (pc + 3) ls st σ P) : TT M pc ls (vI a :: st) σ P := fun Q hQ => T_if_ge hd ht ha (fun q => kt q Q hQ) (fun q => kf q Q hQ)
theorem TT_icmp_gt {M : MI} {pc : Nat} {ls st : List PV} {σ : Mem} {P : Option PV → Mem → Prop} {a b : Int} {off : Int} {tgt : Nat} (hd : decode (miC M) pc = .ok (.if_icmp .gt off, 3)) (ht : (pc : Int) + off = (tgt : Int)) (ha : R32 a) (hb : R32 b) (kt : b < a → TT M tgt ls st σ P) (kf : ¬ b < a → TT M (pc + 3) ls st σ P) : TT M pc ls (vI b :: vI a :: st) σ P := fun Q hQ => T_icmp_gt hd ht ha hb (fun q => kt q Q hQ) (fun q => kf q Q hQ)
theorem TT_if_gt {M : MI} {pc : Nat} {ls st : List PV} {σ : Mem} {P : Option PV → Mem → Prop} {a : Int} {off : Int} {tgt : Nat} (hd : decode (miC M) pc = .ok (.ifCond .gt off, 3)) (ht : (pc : Int) + off = (tgt : Int)) (ha : R32 a) (kt : 0 < a → TT M tgt ls st σ P) (kf : ¬ 0 < a → TT M (pc + 3) ls st σ P) : TT M pc ls (vI a :: st) σ P := fun Q hQ => T_if_gt hd ht ha (fun q => kt q Q hQ) (fun q => kf q Q hQ)
theorem TT_icmp_le {M : MI} {pc : Nat} {ls st : List PV} {σ : Mem} {P : Option PV → Mem → Prop} {a b : Int} {off : Int} {tgt : Nat} (hd : decode (miC M) pc = .ok (.if_icmp .le off, 3)) (ht : (pc : Int) + off = (tgt : Int)) (ha : R32 a) (hb : R32 b) (kt : a ≤ b → TT M tgt ls st σ P) (kf : ¬ a ≤ b → TT M (pc + 3) ls st σ P) : TT M pc ls (vI b :: vI a :: st) σ P := fun Q hQ => T_icmp_le hd ht ha hb (fun q => kt q Q hQ) (fun q => kf q Q hQ)
theorem TT_if_le {M : MI} {pc : Nat} {ls st : List PV} {σ : Mem} {P : Option PV → Mem → Prop} {a : Int} {off : Int} {tgt : Nat} (hd : decode (miC M) pc = .ok (.ifCond .le off, 3)) (ht : (pc : Int) + off = (tgt : Int)) (ha : R32 a) (kt : a ≤ 0 → TT M tgt ls st σ P) (kf : ¬ a ≤ 0 → TT M (pc + 3) ls st σ P) : TT M pc ls (vI a :: st) σ P := fun Q hQ => T_if_le hd ht ha (fun q => kt q Q hQ) (fun q => kf q Q hQ)
theorem TT_lcmp {M : MI} {pc : Nat} {ls st : List PV} {σ : Mem} {P : Option PV → Mem → Prop} {a b : Int} (hd : decode (miC M) pc = .ok (.lcmp, 1)) (ha : R64 a) (hb : R64 b) (k : TT M (pc + 1) ls (vI (if b < a then 1 else if a = b then 0 else -1) :: st) σ P) : TT M pc ls (vL b :: vL a :: st) σ P := fun Q hQ => T_lcmp hd ha hb (k Q hQ)
theorem TT_tableIn {M : MI} {pc : Nat} {ls st : List PV} {σ : Mem} {P : Option PV → Mem → Prop} {x : Int} {dflt lo hi : Int} {offs : Array Int} {len : Nat} {off : Int} {tgt : Nat} (hd : decode (miC M) pc = .ok (.tableswitch dflt lo hi offs, len)) (hx : R32 x) (q1 : lo ≤ x) (q2 : x ≤ hi) (ho : offs[(x - lo).toNat]? = some off) (ht : (pc : Int) + off = (tgt : Int)) (k : TT M tgt ls st σ P) : TT M pc ls (vI x :: st) σ P := fun Q hQ => T_tableIn hd hx q1 q2 ho ht (k Q hQ)
theorem TT_tableOut {M : MI} {pc : Nat} {ls st : List PV} {σ : Mem} {P : Option PV → Mem → Prop} {x : Int} {dflt lo hi : Int} {offs : Array Int} {len : Nat} {tgt : Nat} (hd : decode (miC M) pc = .ok (.tableswitch dflt lo hi offs, len)) (hx : R32 x) (q1 : x < lo ∨ hi < x) (ht : (pc : Int) + dflt = (tgt : Int)) (k : TT M tgt ls st σ P) : TT M pc ls (vI x :: st) σ P := fun Q hQ => T_tableOut hd hx q1 ht (k Q hQ)
theorem TT_iload_n {M : MI} {pc : Nat} {ls st : List PV} {σ : Mem} {P : Option PV → Mem → Prop} {k : Fin 4} {x : Int} (hd : decode (miC M) pc = .ok (.iload_n k, 1)) (hi : ls[(k : Nat)]? = some (vI x)) (kk : TT M (pc + 1) ls (vI x :: st) σ P) : TT M pc ls st σ P := fun Q hQ => T_iload_n hd hi (kk Q hQ)
theorem TT_iload {M : MI} {pc : Nat} {ls st : List PV} {σ : Mem} {P : Option PV → Mem → Prop} {i : Nat} {x : Int} (hd : decode (miC M) pc = .ok (.iload i, 2)) (hi : ls[i]? = some (vI x)) (kk : TT M (pc + 2) ls (vI x :: st) σ P) : TT M pc ls st σ P := fun Q hQ => T_iload hd hi (kk Q hQ)
theorem TT_lload_n {M : MI} {pc : Nat} {ls st : List PV} {σ : Mem} {P : Option PV → Mem → Prop} {k : Fin 4} {x : Int} (hd : decode (miC M) pc = .ok (.lload_n k, 1)) (hi : ls[(k : Nat)]? = some (vL x)) (kk : TT M (pc + 1) ls (vL x :: st) σ P) : TT M pc ls st σ P := fun Q hQ => T_lload_n hd hi (kk Q hQ)
theorem TT_lload {M : MI} {pc : Nat} {ls st : List PV} {σ : Mem} {P : Option PV → Mem → Prop} {i : Nat} {x : Int} (hd : decode (miC M) pc = .ok (.lload i, 2)) (hi : ls[i]? = some (vL x)) (kk : TT M (pc + 2) ls (vL x :: st) σ P) : TT M pc ls st σ P := fun Q hQ => T_lload hd hi (kk Q hQ)
theorem TT_aload_n {M : MI} {pc : Nat} {ls st : List PV} {σ : Mem} {P : Option PV → Mem → Prop} {k : Fin 4} {x : Nat} (hd : decode (miC M) pc = .ok (.aload_n k, 1)) (hi : ls[(k : Nat)]? = some (vR x)) (kk : TT M (pc + 1) ls (vR x :: st) σ P) : TT M pc ls st σ P := fun Q hQ => T_aload_n hd hi (kk Q hQ)
theorem TT_aload {M : MI} {pc : Nat} {ls st : List PV} {σ : Mem} {P : Option PV → Mem → Prop} {i : Nat} {x : Nat} (hd : decode (miC M) pc = .ok (.aload i, 2)) (hi : ls[i]? = some (vR x)) (kk : TT M (pc + 2) ls (vR x :: st) σ P) : TT M pc ls st σ P := fun Q hQ => T_aload hd hi (kk Q hQ)
theorem TT_sload_n {M : MI} {pc : Nat} {ls st : List PV} {σ : Mem} {P : Option PV → Mem → Prop} {k : Fin 4} (hd : decode (miC M) pc = .ok (.aload_n k, 1)) (hi : ls[(k : Nat)]? = some vS) (kk : TT M (pc + 1) ls (vS :: st) σ P) : TT M pc ls st σ P := fun Q hQ => T_sload_n hd hi (kk Q hQ)
theorem TT_istore_n {M : MI} {pc : Nat} {ls st : List PV} {σ : Mem} {P : Option PV → Mem → Prop} {k : Fin 4} {x : Int} {ls2 : List PV} (hd : decode (miC M) pc = .ok (.istore_n k, 1)) (hb : (k : Nat) < miL M) (ho : okS ls (k : Nat) = true) (hs : ls.set (k : Nat) (vI x) = ls2) (kk : TT M (pc + 1) ls2 st σ P) : TT M pc ls (vI x :: st) σ P := fun Q hQ => T_istore_n hd hb ho hs (kk Q hQ)
theorem TT_istore {M : MI} {pc : Nat} {ls st : List PV} {σ : Mem} {P : Option PV → Mem → Prop} {i : Nat} {x : Int} {ls2 : List PV} (hd : decode (miC M) pc = .ok (.istore i, 2)) (hb : i < miL M) (ho : okS ls i = true) (hs : ls.set i (vI x) = ls2) (kk : TT M (pc + 2) ls2 st σ P) : TT M pc ls (vI x :: st) σ P := fun Q hQ => T_istore hd hb ho hs (kk Q hQ)
theorem TT_astore_n {M : MI} {pc : Nat} {ls st : List PV} {σ : Mem} {P : Option PV → Mem → Prop} {k : Fin 4} {x : Nat} {ls2 : List PV} (hd : decode (miC M) pc = .ok (.astore_n k, 1)) (hb : (k : Nat) < miL M) (ho : okS ls (k : Nat) = true) (hs : ls.set (k : Nat) (vR x) = ls2) (kk : TT M (pc + 1) ls2 st σ P) : TT M pc ls (vR x :: st) σ P := fun Q hQ => T_astore_n hd hb ho hs (kk Q hQ)
theorem TT_astore {M : MI} {pc : Nat} {ls st : List PV} {σ : Mem} {P : Option PV → Mem → Prop} {i : Nat} {x : Nat} {ls2 : List PV} (hd : decode (miC M) pc = .ok (.astore i, 2)) (hb : i < miL M) (ho : okS ls i = true) (hs : ls.set i (vR x) = ls2) (kk : TT M (pc + 2) ls2 st σ P) : TT M pc ls (vR x :: st) σ P := fun Q hQ => T_astore hd hb ho hs (kk Q hQ)
theorem TT_lstore_n {M : MI} {pc : Nat} {ls st : List PV} {σ : Mem} {P : Option PV → Mem → Prop} {k : Fin 4} {x : Int} {ls2 : List PV} (hd : decode (miC M) pc = .ok (.lstore_n k, 1)) (hb : (k : Nat) + 1 < miL M) (ho : okS ls (k : Nat) = true) (hs : (ls.set (k : Nat) (vL x)).set ((k : Nat) + 1) vU = ls2) (kk : TT M (pc + 1) ls2 st σ P) : TT M pc ls (vL x :: st) σ P := fun Q hQ => T_lstore_n hd hb ho hs (kk Q hQ)
theorem TT_lstore {M : MI} {pc : Nat} {ls st : List PV} {σ : Mem} {P : Option PV → Mem → Prop} {i : Nat} {x : Int} {ls2 : List PV} (hd : decode (miC M) pc = .ok (.lstore i, 2)) (hb : i + 1 < miL M) (ho : okS ls i = true) (hs : (ls.set i (vL x)).set (i + 1) vU = ls2) (kk : TT M (pc + 2) ls2 st σ P) : TT M pc ls (vL x :: st) σ P := fun Q hQ => T_lstore hd hb ho hs (kk Q hQ)
theorem TT_iinc {M : MI} {pc : Nat} {ls st : List PV} {σ : Mem} {P : Option PV → Mem → Prop} {i : Nat} {n x : Int} {ls2 : List PV} (hd : decode (miC M) pc = .ok (.iinc i n, 3)) (hb : i < miL M) (hi : ls[i]? = some (vI x)) (ho : okS ls i = true) (hs : ls.set i (vI (x + n)) = ls2) (kk : TT M (pc + 3) ls2 st σ P) : TT M pc ls st σ P := fun Q hQ => T_iinc hd hb hi ho hs (kk Q hQ)
theorem TT_getI {M : MI} {pc : Nat} {ls st : List PV} {σ : Mem} {P : Option PV → Mem → Prop} {a : Nat} {idx c k nf : Nat} {fin : Bool} (hd : decode (miC M) pc = .ok (.getfield idx, 3)) (hf : Fld (miO M) idx c k nf fin) (hc : c < 20) (hty : tyC c k = .int ∨ tyC c k = .boolean) (ha : a < N0) (hs : SH a = (c, nf)) (kk : TT M (pc + 3) ls (vI (σ a k) :: st) σ P) : TT M pc ls (vR a :: st) σ P := fun Q hQ => T_getI hd hf hty ha hs (by
  rw [mrg_n (by rw [rsl_obj hs hc]; rcases hty with q | q <;> rw [q] <;> rfl)]
  exact kk Q hQ)
theorem TT_getJ {M : MI} {pc : Nat} {ls st : List PV} {σ : Mem} {P : Option PV → Mem → Prop} {a : Nat} {idx c k nf : Nat} {fin : Bool} (hd : decode (miC M) pc = .ok (.getfield idx, 3)) (hf : Fld (miO M) idx c k nf fin) (hc : c < 20) (hty : tyC c k = .long) (ha : a < N0) (hs : SH a = (c, nf)) (kk : TT M (pc + 3) ls (vL (σ a k) :: st) σ P) : TT M pc ls (vR a :: st) σ P := fun Q hQ => T_getJ hd hf hty ha hs (by
  rw [mrg_n (by rw [rsl_obj hs hc, hty]; rfl)]
  exact kk Q hQ)
theorem TT_getR {M : MI} {pc : Nat} {ls st : List PV} {σ : Mem} {P : Option PV → Mem → Prop} {a : Nat} {idx c k nf r : Nat} {fin : Bool} (hd : decode (miC M) pc = .ok (.getfield idx, 3)) (hf : Fld (miO M) idx c k nf fin) (hc : c < 20) (hty : isRefT (tyC c k) = true) (ha : a < N0) (hs : SH a = (c, nf)) (hr : RS a k = (r : Int)) (kk : TT M (pc + 3) ls (vR r :: st) σ P) : TT M pc ls (vR a :: st) σ P := fun Q hQ => T_getR (r := r) hd hf hty ha hs (by rw [mrg_r (by rw [rsl_obj hs hc]; exact hty)]; exact hr) (kk Q hQ)
theorem TT_putI {M : MI} {pc : Nat} {ls st : List PV} {σ : Mem} {P : Option PV → Mem → Prop} {a : Nat} {idx c k nf : Nat} {x : Int} (hd : decode (miC M) pc = .ok (.putfield idx, 3)) (hf : Fld (miO M) idx c k nf false) (hc : c < 20) (hty : tyC c k = .int) (ha : a < N0) (hs : SH a = (c, nf)) (kk : TT M (pc + 3) ls st (up σ a k x) P) : TT M pc ls (vI x :: vR a :: st) σ P := fun Q hQ => T_putI hd hf hty ha hs (by
  rw [mrg_up (by rw [rsl_obj hs hc, hty]; rfl)]
  exact kk Q hQ)
theorem TT_putZ {M : MI} {pc : Nat} {ls st : List PV} {σ : Mem} {P : Option PV → Mem → Prop} {a : Nat} {idx c k nf : Nat} {x : Int} (hd : decode (miC M) pc = .ok (.putfield idx, 3)) (hf : Fld (miO M) idx c k nf false) (hc : c < 20) (hty : tyC c k = .boolean) (hx : x = 0 ∨ x = 1) (ha : a < N0) (hs : SH a = (c, nf)) (kk : TT M (pc + 3) ls st (up σ a k x) P) : TT M pc ls (vI x :: vR a :: st) σ P := fun Q hQ => T_putZ hd hf hty hx ha hs (by
  rw [mrg_up (by rw [rsl_obj hs hc, hty]; rfl)]
  exact kk Q hQ)
theorem TT_putJ {M : MI} {pc : Nat} {ls st : List PV} {σ : Mem} {P : Option PV → Mem → Prop} {a : Nat} {idx c k nf : Nat} {x : Int} (hd : decode (miC M) pc = .ok (.putfield idx, 3)) (hf : Fld (miO M) idx c k nf false) (hc : c < 20) (hty : tyC c k = .long) (ha : a < N0) (hs : SH a = (c, nf)) (kk : TT M (pc + 3) ls st (up σ a k x) P) : TT M pc ls (vL x :: vR a :: st) σ P := fun Q hQ => T_putJ hd hf hty ha hs (by
  rw [mrg_up (by rw [rsl_obj hs hc, hty]; rfl)]
  exact kk Q hQ)
theorem TT_iald {M : MI} {pc : Nat} {ls st : List PV} {σ : Mem} {P : Option PV → Mem → Prop} {a : Nat} {len : Nat} {i : Int} (hd : decode (miC M) pc = .ok (.iaload, 1)) (ha : a < N0) (hs : SH a = (20, len)) (hln : len < 2147483648) (ho : 0 ≤ i ∧ i < len) (kk : TT M (pc + 1) ls (vI (σ a i.toNat) :: st) σ P) : TT M pc ls (vI i :: vR a :: st) σ P := fun Q hQ => T_iald hd ha hs hln ho.1 ho.2 (by
  rw [mrg_n (rsl_arr hs (Or.inl rfl))]
  exact kk Q hQ)
theorem TT_zald {M : MI} {pc : Nat} {ls st : List PV} {σ : Mem} {P : Option PV → Mem → Prop} {a : Nat} {len : Nat} {i : Int} (hd : decode (miC M) pc = .ok (.baload, 1)) (ha : a < N0) (hs : SH a = (22, len)) (hln : len < 2147483648) (ho : 0 ≤ i ∧ i < len) (kk : TT M (pc + 1) ls (vI (σ a i.toNat) :: st) σ P) : TT M pc ls (vI i :: vR a :: st) σ P := fun Q hQ => T_zald hd ha hs hln ho.1 ho.2 (by
  rw [mrg_n (rsl_arr hs (Or.inr (Or.inr rfl)))]
  exact kk Q hQ)
theorem TT_lald {M : MI} {pc : Nat} {ls st : List PV} {σ : Mem} {P : Option PV → Mem → Prop} {a : Nat} {len : Nat} {i : Int} (hd : decode (miC M) pc = .ok (.laload, 1)) (ha : a < N0) (hs : SH a = (21, len)) (hln : len < 2147483648) (ho : 0 ≤ i ∧ i < len) (kk : TT M (pc + 1) ls (vL (σ a i.toNat) :: st) σ P) : TT M pc ls (vI i :: vR a :: st) σ P := fun Q hQ => T_lald hd ha hs hln ho.1 ho.2 (by
  rw [mrg_n (rsl_arr hs (Or.inr (Or.inl rfl)))]
  exact kk Q hQ)
theorem TT_iast {M : MI} {pc : Nat} {ls st : List PV} {σ : Mem} {P : Option PV → Mem → Prop} {a : Nat} {len : Nat} {i x : Int} (hd : decode (miC M) pc = .ok (.iastore, 1)) (ha : a < N0) (hs : SH a = (20, len)) (hln : len < 2147483648) (ho : 0 ≤ i ∧ i < len) (kk : TT M (pc + 1) ls st (up σ a i.toNat x) P) : TT M pc ls (vI x :: vI i :: vR a :: st) σ P := fun Q hQ => T_iast hd ha hs hln ho.1 ho.2 (by
  rw [mrg_up (rsl_arr hs (Or.inl rfl))]
  exact kk Q hQ)
theorem TT_zast {M : MI} {pc : Nat} {ls st : List PV} {σ : Mem} {P : Option PV → Mem → Prop} {a : Nat} {len : Nat} {i x : Int} (hd : decode (miC M) pc = .ok (.bastore, 1)) (hx : x = 0 ∨ x = 1) (ha : a < N0) (hs : SH a = (22, len)) (hln : len < 2147483648) (ho : 0 ≤ i ∧ i < len) (kk : TT M (pc + 1) ls st (up σ a i.toNat x) P) : TT M pc ls (vI x :: vI i :: vR a :: st) σ P := fun Q hQ => T_zast hd hx ha hs hln ho.1 ho.2 (by
  rw [mrg_up (rsl_arr hs (Or.inr (Or.inr rfl)))]
  exact kk Q hQ)
theorem TT_last {M : MI} {pc : Nat} {ls st : List PV} {σ : Mem} {P : Option PV → Mem → Prop} {a : Nat} {len : Nat} {i x : Int} (hd : decode (miC M) pc = .ok (.lastore, 1)) (ha : a < N0) (hs : SH a = (21, len)) (hln : len < 2147483648) (ho : 0 ≤ i ∧ i < len) (kk : TT M (pc + 1) ls st (up σ a i.toNat x) P) : TT M pc ls (vL x :: vI i :: vR a :: st) σ P := fun Q hQ => T_last hd ha hs hln ho.1 ho.2 (by
  rw [mrg_up (rsl_arr hs (Or.inr (Or.inl rfl)))]
  exact kk Q hQ)
theorem TT_aald {M : MI} {pc : Nat} {ls st : List PV} {σ : Mem} {P : Option PV → Mem → Prop} {a : Nat} {len kd r : Nat} {i : Int} (hd : decode (miC M) pc = .ok (.aaload, 1)) (hk : kd = 23 ∨ kd = 24) (ha : a < N0) (hs : SH a = (kd, len)) (hln : len < 2147483648) (ho : 0 ≤ i ∧ i < len) (hr : RS a i.toNat = (r : Int)) (kk : TT M (pc + 1) ls (vR r :: st) σ P) : TT M pc ls (vI i :: vR a :: st) σ P := fun Q hQ => T_aald (r := r) hd hk ha hs hln ho.1 ho.2 (by rw [mrg_r (by unfold rsl; rw [hs, if_pos (by rcases hk with q | q <;> rw [q] <;> simp)])]; exact hr) (kk Q hQ)
theorem TT_alen {M : MI} {pc : Nat} {ls st : List PV} {σ : Mem} {P : Option PV → Mem → Prop} {a : Nat} {len : Nat} (hd : decode (miC M) pc = .ok (.arraylength, 1)) (ha : a < N0) (hs : SH a = (20, len)) (kk : TT M (pc + 1) ls (vI len :: st) σ P) : TT M pc ls (vR a :: st) σ P := fun Q hQ => T_alen hd rfl ha hs (kk Q hQ)
theorem TT_copy {M : MI} {pc : Nat} {ls st : List PV} {σ : Mem} {P : Option PV → Mem → Prop} {a : Nat} {idx len len2 b : Nat} {sp dp m9 : Int} (hd : decode (miC M) pc = .ok (.invokestatic idx, 3)) (hw9 : Cond.methodLink (miO M) idx arraycopyName ∈ TS) (hF : 1 ≤ miF M) (hV : (st.map pcat).sum + (nativeFrameWords "java/lang/System" "arraycopy" 5 + 11) ≤ miV M) (ha : a < N0) (hs : SH a = (20, len)) (hb : b < N0) (hsb : SH b = (20, len2)) (hln : len < 2147483648) (hln2 : len2 < 2147483648) (ho : 0 ≤ sp ∧ 0 ≤ dp ∧ 0 ≤ m9 ∧ sp + m9 ≤ len ∧ dp + m9 ≤ len2) (kk : TT M (pc + 3) ls st (mcpy σ a b sp.toNat dp.toNat m9.toNat) P) : TT M pc ls (vI m9 :: vI dp :: vR b :: vI sp :: vR a :: st) σ P := fun Q hQ => T_copy hd hw9 hF hV ha hs hb hsb hln hln2 ho.1 ho.2.1 ho.2.2.1 ho.2.2.2.1 ho.2.2.2.2 (by
  rw [mrg_cpy hs hsb]
  exact kk Q hQ)
theorem TT_sald {M : MI} {pc : Nat} {ls st : List PV} {σ : Mem} {P : Option PV → Mem → Prop} {i : Int} (hd : decode (miC M) pc = .ok (.iaload, 1)) (hW : miW M = true) (hln : (miX M).1 < 2147483648) (ho : 0 ≤ i ∧ i < (miX M).1) (kk : TT M (pc + 1) ls (vI ((miX M).2 i.toNat) :: st) σ P) : TT M pc ls (vI i :: vS :: st) σ P := fun Q hQ => T_sald hd hW hln ho.1 ho.2 (kk Q hQ)
theorem TT_slen {M : MI} {pc : Nat} {ls st : List PV} {σ : Mem} {P : Option PV → Mem → Prop} (hd : decode (miC M) pc = .ok (.arraylength, 1)) (hW : miW M = true) (kk : TT M (pc + 1) ls (vI ((miX M).1 : Int) :: st) σ P) : TT M pc ls (vS :: st) σ P := fun Q hQ => T_slen hd hW (kk Q hQ)
theorem TT_vret {M : MI} {pc : Nat} {ls : List PV} {σ : Mem} {K : Mem → Prop} (hd : decode (miC M) pc = .ok (.return_, 1)) (hr : miR M = none) (hm : miI M = false) (hq : K σ) : TT M pc ls [] σ (PN K) := fun Q hQ => T_vret hd hr (Or.inr hm) (hQ _ _ ⟨rfl, hq⟩)
theorem TT_iret {M : MI} {pc : Nat} {ls : List PV} {σ : Mem} {K : Int → Mem → Prop} {x : Int} (hd : decode (miC M) pc = .ok (.ireturn, 1)) (hr : miR M = some .int) (hm : miI M = false) (hq : K x σ) : TT M pc ls [vI x] σ (PI K) := fun Q hQ => T_iret hd hr hm (hQ _ _ ⟨x, rfl, hq⟩)
theorem TT_zret {M : MI} {pc : Nat} {ls : List PV} {σ : Mem} {K : Int → Mem → Prop} {x : Int} (hd : decode (miC M) pc = .ok (.ireturn, 1)) (hr : miR M = some .boolean) (hm : miI M = false) (hx : x = 0 ∨ x = 1) (hq : K x σ) : TT M pc ls [vI x] σ (PI K) := fun Q hQ => T_zret hd hr hm hx (hQ _ _ ⟨x, rfl, hq⟩)
theorem TT_lret {M : MI} {pc : Nat} {ls : List PV} {σ : Mem} {K : Int → Mem → Prop} {x : Int} (hd : decode (miC M) pc = .ok (.lreturn, 1)) (hr : miR M = some .long) (hm : miI M = false) (hq : K x σ) : TT M pc ls [vL x] σ (PJ K) := fun Q hQ => T_lret hd hr hm (hQ _ _ ⟨x, rfl, hq⟩)
theorem TT_max {M : MI} {pc : Nat} {ls st : List PV} {σ : Mem} {P : Option PV → Mem → Prop} {idx : Nat} {x y : Int} (hd : decode (miC M) pc = .ok (.invokestatic idx, 3)) (hw : Cond.methodLink (miO M) idx Lib.Math.max.name ∈ TS) (hF : 1 ≤ miF M) (hV : (st.map pcat).sum + 13 ≤ miV M) (hx : R32 x ∧ R32 y) (kk : TT M (pc + 3) ls (vI (max x y) :: st) σ P) : TT M pc ls (vI y :: vI x :: st) σ P := fun Q hQ => T_max hd hw hF hV hx.1 hx.2 (kk Q hQ)
theorem TT_min {M : MI} {pc : Nat} {ls st : List PV} {σ : Mem} {P : Option PV → Mem → Prop} {idx : Nat} {x y : Int} (hd : decode (miC M) pc = .ok (.invokestatic idx, 3)) (hw : Cond.methodLink (miO M) idx Lib.Math.min.name ∈ TS) (hF : 1 ≤ miF M) (hV : (st.map pcat).sum + 13 ≤ miV M) (hx : R32 x ∧ R32 y) (kk : TT M (pc + 3) ls (vI (min x y) :: st) σ P) : TT M pc ls (vI y :: vI x :: st) σ P := fun Q hQ => T_min hd hw hF hV hx.1 hx.2 (kk Q hQ)
theorem TT_abs {M : MI} {pc : Nat} {ls st : List PV} {σ : Mem} {P : Option PV → Mem → Prop} {idx : Nat} {x : Int} (hd : decode (miC M) pc = .ok (.invokestatic idx, 3)) (hw : Cond.methodLink (miO M) idx Lib.Math.abs.name ∈ TS) (hF : 1 ≤ miF M) (hV : (st.map pcat).sum + 13 ≤ miV M) (hx : R32 x) (kk : TT M (pc + 3) ls (vI (iabs x) :: st) σ P) : TT M pc ls (vI x :: st) σ P := fun Q hQ => T_abs hd hw hF hV hx (kk Q hQ)
theorem TT_labs {M : MI} {pc : Nat} {ls st : List PV} {σ : Mem} {P : Option PV → Mem → Prop} {idx : Nat} {x : Int} (hd : decode (miC M) pc = .ok (.invokestatic idx, 3)) (hw : Cond.methodLink (miO M) idx Lib.MathLoose.abs_long.x ∈ TS) (hF : 1 ≤ miF M) (hV : (st.map pcat).sum + 13 ≤ miV M) (hx : R64 x) (kk : TT M (pc + 3) ls (vL (iabs x) :: st) σ P) : TT M pc ls (vL x :: st) σ P := fun Q hQ => T_labs hd hw hF hV hx (kk Q hQ)
theorem TT_callVI {M M' : MI} {pc idx na : Nat} {ls st as rest : List PV} {σ : Mem} {P : Option PV → Mem → Prop} {a : Nat} {K : Int → Mem → Prop} {cc nf : Nat} {U : u_T} (hd : decode (miC M) pc = .ok (.invokevirtual idx, 3)) (hm : MOK M' na) (hw : Cond.methodLink (miO M) idx (miY M') ∈ TS) (hi : Cond.instanceMethod (miY M') ∈ TS) (hse : Cond.selects (miY M').cls (miY M') (miY M') ∈ TS) (hF : miF M' + 1 ≤ miF M) (hV : 8 + (miL M' + 11) + miV M' ≤ miV M) (hk : miK M' = 0 ∧ miM M' = 0 ∧ miI M' = false) (hst : st = as.reverse ++ vR a :: rest) (hn : as.length = na) (hr : (rest.map pcat).sum ≤ 8) (ha : a < N0) (hsh : SH a = (cc, nf)) (hc : vwCl[cc]? = some ((miY M').cls, U, nf)) (hc20 : cc < 20) (hcall : CC M' (vR a :: as) σ (PI K)) (kk : ∀ x σ1, K x σ1 → TT M (pc + 3) ls (vI x :: rest) σ1 P) : TT M pc ls st σ P := fun Q hQ => T_callV hd hm hw hi hse hF hV hk hst hn hr ha hsh hc hc20 (hcall _ fun r σ1 h8 => match r, h8 with
  | _, ⟨x, rfl, h9⟩ => kk x σ1 h9 Q hQ)
theorem TT_callSI {M M' : MI} {pc idx na : Nat} {ls st as rest : List PV} {σ : Mem} {P : Option PV → Mem → Prop} {K : Int → Mem → Prop} (hd : decode (miC M) pc = .ok (.invokestatic idx, 3)) (hm : MOK M' na) (hw : Cond.methodLink (miO M) idx (miY M') ∈ TS) (hi : Cond.static (miY M') ∈ TS) (hF : miF M' + 1 ≤ miF M) (hV : 8 + (miL M' + 11) + miV M' ≤ miV M) (hk : miK M' = 0 ∧ miM M' = 0 ∧ miI M' = false) (hst : st = as.reverse ++ rest) (hn : as.length = na) (hr : (rest.map pcat).sum ≤ 8) (hcall : CC M' as σ (PI K)) (kk : ∀ x σ1, K x σ1 → TT M (pc + 3) ls (vI x :: rest) σ1 P) : TT M pc ls st σ P := fun Q hQ => T_callS hd hm hw hi hF hV hk hst hn hr (hcall _ fun r σ1 h8 => match r, h8 with
  | _, ⟨x, rfl, h9⟩ => kk x σ1 h9 Q hQ)
theorem TT_callSNI {M M' : MI} {pc idx na : Nat} {ls st as rest : List PV} {σ : Mem} {P : Option PV → Mem → Prop} {K : Int → Mem → Prop} (hd : decode (miC M) pc = .ok (.invokestatic idx, 3)) (hm : MOK M' na) (hw : (miO M, idx, miY M') ∈ nestW) (hi : Cond.static (miY M') ∈ TS) (hF : miF M' + 1 ≤ miF M) (hV : 8 + (miL M' + 11) + miV M' ≤ miV M) (hk : miK M' = 0 ∧ miM M' = 0 ∧ miI M' = false) (hst : st = as.reverse ++ rest) (hn : as.length = na) (hr : (rest.map pcat).sum ≤ 8) (hcall : CC M' as σ (PI K)) (kk : ∀ x σ1, K x σ1 → TT M (pc + 3) ls (vI x :: rest) σ1 P) : TT M pc ls st σ P := fun Q hQ => T_callSN hd hm hw hi hF hV hk hst hn hr (hcall _ fun r σ1 h8 => match r, h8 with
  | _, ⟨x, rfl, h9⟩ => kk x σ1 h9 Q hQ)
theorem TT_callVJ {M M' : MI} {pc idx na : Nat} {ls st as rest : List PV} {σ : Mem} {P : Option PV → Mem → Prop} {a : Nat} {K : Int → Mem → Prop} {cc nf : Nat} {U : u_T} (hd : decode (miC M) pc = .ok (.invokevirtual idx, 3)) (hm : MOK M' na) (hw : Cond.methodLink (miO M) idx (miY M') ∈ TS) (hi : Cond.instanceMethod (miY M') ∈ TS) (hse : Cond.selects (miY M').cls (miY M') (miY M') ∈ TS) (hF : miF M' + 1 ≤ miF M) (hV : 8 + (miL M' + 11) + miV M' ≤ miV M) (hk : miK M' = 0 ∧ miM M' = 0 ∧ miI M' = false) (hst : st = as.reverse ++ vR a :: rest) (hn : as.length = na) (hr : (rest.map pcat).sum ≤ 8) (ha : a < N0) (hsh : SH a = (cc, nf)) (hc : vwCl[cc]? = some ((miY M').cls, U, nf)) (hc20 : cc < 20) (hcall : CC M' (vR a :: as) σ (PJ K)) (kk : ∀ x σ1, K x σ1 → TT M (pc + 3) ls (vL x :: rest) σ1 P) : TT M pc ls st σ P := fun Q hQ => T_callV hd hm hw hi hse hF hV hk hst hn hr ha hsh hc hc20 (hcall _ fun r σ1 h8 => match r, h8 with
  | _, ⟨x, rfl, h9⟩ => kk x σ1 h9 Q hQ)
theorem TT_callSJ {M M' : MI} {pc idx na : Nat} {ls st as rest : List PV} {σ : Mem} {P : Option PV → Mem → Prop} {K : Int → Mem → Prop} (hd : decode (miC M) pc = .ok (.invokestatic idx, 3)) (hm : MOK M' na) (hw : Cond.methodLink (miO M) idx (miY M') ∈ TS) (hi : Cond.static (miY M') ∈ TS) (hF : miF M' + 1 ≤ miF M) (hV : 8 + (miL M' + 11) + miV M' ≤ miV M) (hk : miK M' = 0 ∧ miM M' = 0 ∧ miI M' = false) (hst : st = as.reverse ++ rest) (hn : as.length = na) (hr : (rest.map pcat).sum ≤ 8) (hcall : CC M' as σ (PJ K)) (kk : ∀ x σ1, K x σ1 → TT M (pc + 3) ls (vL x :: rest) σ1 P) : TT M pc ls st σ P := fun Q hQ => T_callS hd hm hw hi hF hV hk hst hn hr (hcall _ fun r σ1 h8 => match r, h8 with
  | _, ⟨x, rfl, h9⟩ => kk x σ1 h9 Q hQ)
theorem TT_callSNJ {M M' : MI} {pc idx na : Nat} {ls st as rest : List PV} {σ : Mem} {P : Option PV → Mem → Prop} {K : Int → Mem → Prop} (hd : decode (miC M) pc = .ok (.invokestatic idx, 3)) (hm : MOK M' na) (hw : (miO M, idx, miY M') ∈ nestW) (hi : Cond.static (miY M') ∈ TS) (hF : miF M' + 1 ≤ miF M) (hV : 8 + (miL M' + 11) + miV M' ≤ miV M) (hk : miK M' = 0 ∧ miM M' = 0 ∧ miI M' = false) (hst : st = as.reverse ++ rest) (hn : as.length = na) (hr : (rest.map pcat).sum ≤ 8) (hcall : CC M' as σ (PJ K)) (kk : ∀ x σ1, K x σ1 → TT M (pc + 3) ls (vL x :: rest) σ1 P) : TT M pc ls st σ P := fun Q hQ => T_callSN hd hm hw hi hF hV hk hst hn hr (hcall _ fun r σ1 h8 => match r, h8 with
  | _, ⟨x, rfl, h9⟩ => kk x σ1 h9 Q hQ)
theorem TT_callVN {M M' : MI} {pc idx na : Nat} {ls st as rest : List PV} {σ : Mem} {P : Option PV → Mem → Prop} {a : Nat} {K : Mem → Prop} {cc nf : Nat} {U : u_T} (hd : decode (miC M) pc = .ok (.invokevirtual idx, 3)) (hm : MOK M' na) (hw : Cond.methodLink (miO M) idx (miY M') ∈ TS) (hi : Cond.instanceMethod (miY M') ∈ TS) (hse : Cond.selects (miY M').cls (miY M') (miY M') ∈ TS) (hF : miF M' + 1 ≤ miF M) (hV : 8 + (miL M' + 11) + miV M' ≤ miV M) (hk : miK M' = 0 ∧ miM M' = 0 ∧ miI M' = false) (hst : st = as.reverse ++ vR a :: rest) (hn : as.length = na) (hr : (rest.map pcat).sum ≤ 8) (ha : a < N0) (hsh : SH a = (cc, nf)) (hc : vwCl[cc]? = some ((miY M').cls, U, nf)) (hc20 : cc < 20) (hcall : CC M' (vR a :: as) σ (PN K)) (kk : ∀ σ1, K σ1 → TT M (pc + 3) ls rest σ1 P) : TT M pc ls st σ P := fun Q hQ => T_callV hd hm hw hi hse hF hV hk hst hn hr ha hsh hc hc20 (hcall _ fun r σ1 h8 => match r, h8 with
  | _, ⟨rfl, h9⟩ => kk σ1 h9 Q hQ)
theorem TT_callSN {M M' : MI} {pc idx na : Nat} {ls st as rest : List PV} {σ : Mem} {P : Option PV → Mem → Prop} {K : Mem → Prop} (hd : decode (miC M) pc = .ok (.invokestatic idx, 3)) (hm : MOK M' na) (hw : Cond.methodLink (miO M) idx (miY M') ∈ TS) (hi : Cond.static (miY M') ∈ TS) (hF : miF M' + 1 ≤ miF M) (hV : 8 + (miL M' + 11) + miV M' ≤ miV M) (hk : miK M' = 0 ∧ miM M' = 0 ∧ miI M' = false) (hst : st = as.reverse ++ rest) (hn : as.length = na) (hr : (rest.map pcat).sum ≤ 8) (hcall : CC M' as σ (PN K)) (kk : ∀ σ1, K σ1 → TT M (pc + 3) ls rest σ1 P) : TT M pc ls st σ P := fun Q hQ => T_callS hd hm hw hi hF hV hk hst hn hr (hcall _ fun r σ1 h8 => match r, h8 with
  | _, ⟨rfl, h9⟩ => kk σ1 h9 Q hQ)
theorem TT_callSNN {M M' : MI} {pc idx na : Nat} {ls st as rest : List PV} {σ : Mem} {P : Option PV → Mem → Prop} {K : Mem → Prop} (hd : decode (miC M) pc = .ok (.invokestatic idx, 3)) (hm : MOK M' na) (hw : (miO M, idx, miY M') ∈ nestW) (hi : Cond.static (miY M') ∈ TS) (hF : miF M' + 1 ≤ miF M) (hV : 8 + (miL M' + 11) + miV M' ≤ miV M) (hk : miK M' = 0 ∧ miM M' = 0 ∧ miI M' = false) (hst : st = as.reverse ++ rest) (hn : as.length = na) (hr : (rest.map pcat).sum ≤ 8) (hcall : CC M' as σ (PN K)) (kk : ∀ σ1, K σ1 → TT M (pc + 3) ls rest σ1 P) : TT M pc ls st σ P := fun Q hQ => T_callSN hd hm hw hi hF hV hk hst hn hr (hcall _ fun r σ1 h8 => match r, h8 with
  | _, ⟨rfl, h9⟩ => kk σ1 h9 Q hQ)
theorem R32_sg (a b : Int) : R32 (if b < a then 1 else if a = b then 0 else -1) := by
  split
  · decide
  · split <;> decide
theorem TT_lc_eq {M : MI} {pc : Nat} {ls st : List PV} {σ : Mem} {P : Option PV → Mem → Prop} {a b : Int} {off : Int} {tgt : Nat} (hd : decode (miC M) pc = .ok (.lcmp, 1)) (hd2 : decode (miC M) (pc + 1) = .ok (.ifCond .eq off, 3)) (ht : ((pc + 1 : Nat) : Int) + off = (tgt : Int)) (ha : R64 a) (hb : R64 b) (kt : a = b → TT M tgt ls st σ P) (kf : ¬ a = b → TT M (pc + 1 + 3) ls st σ P) : TT M pc ls (vL b :: vL a :: st) σ P := by
  refine TT_lcmp hd ha hb ?_
  refine TT_if_eq hd2 ht (R32_sg a b) (fun q => kt ?_) (fun q => kf ?_)
  · by_cases h1 : b < a
    · rw [if_pos h1] at q; omega
    · rw [if_neg h1] at q
      by_cases h2 : a = b
      · rw [if_pos h2] at q; omega
      · rw [if_neg h2] at q; omega
  · by_cases h1 : b < a
    · rw [if_pos h1] at q; omega
    · rw [if_neg h1] at q
      by_cases h2 : a = b
      · rw [if_pos h2] at q; omega
      · rw [if_neg h2] at q; omega
theorem TT_lc_ne {M : MI} {pc : Nat} {ls st : List PV} {σ : Mem} {P : Option PV → Mem → Prop} {a b : Int} {off : Int} {tgt : Nat} (hd : decode (miC M) pc = .ok (.lcmp, 1)) (hd2 : decode (miC M) (pc + 1) = .ok (.ifCond .ne off, 3)) (ht : ((pc + 1 : Nat) : Int) + off = (tgt : Int)) (ha : R64 a) (hb : R64 b) (kt : ¬ a = b → TT M tgt ls st σ P) (kf : a = b → TT M (pc + 1 + 3) ls st σ P) : TT M pc ls (vL b :: vL a :: st) σ P := by
  refine TT_lcmp hd ha hb ?_
  refine TT_if_ne hd2 ht (R32_sg a b) (fun q => kt ?_) (fun q => kf ?_)
  · by_cases h1 : b < a
    · rw [if_pos h1] at q; omega
    · rw [if_neg h1] at q
      by_cases h2 : a = b
      · rw [if_pos h2] at q; omega
      · rw [if_neg h2] at q; omega
  · by_cases h1 : b < a
    · rw [if_pos h1] at q; omega
    · rw [if_neg h1] at q
      by_cases h2 : a = b
      · rw [if_pos h2] at q; omega
      · rw [if_neg h2] at q; omega
theorem TT_lc_lt {M : MI} {pc : Nat} {ls st : List PV} {σ : Mem} {P : Option PV → Mem → Prop} {a b : Int} {off : Int} {tgt : Nat} (hd : decode (miC M) pc = .ok (.lcmp, 1)) (hd2 : decode (miC M) (pc + 1) = .ok (.ifCond .lt off, 3)) (ht : ((pc + 1 : Nat) : Int) + off = (tgt : Int)) (ha : R64 a) (hb : R64 b) (kt : a < b → TT M tgt ls st σ P) (kf : ¬ a < b → TT M (pc + 1 + 3) ls st σ P) : TT M pc ls (vL b :: vL a :: st) σ P := by
  refine TT_lcmp hd ha hb ?_
  refine TT_if_lt hd2 ht (R32_sg a b) (fun q => kt ?_) (fun q => kf ?_)
  · by_cases h1 : b < a
    · rw [if_pos h1] at q; omega
    · rw [if_neg h1] at q
      by_cases h2 : a = b
      · rw [if_pos h2] at q; omega
      · rw [if_neg h2] at q; omega
  · by_cases h1 : b < a
    · rw [if_pos h1] at q; omega
    · rw [if_neg h1] at q
      by_cases h2 : a = b
      · rw [if_pos h2] at q; omega
      · rw [if_neg h2] at q; omega
theorem TT_lc_ge {M : MI} {pc : Nat} {ls st : List PV} {σ : Mem} {P : Option PV → Mem → Prop} {a b : Int} {off : Int} {tgt : Nat} (hd : decode (miC M) pc = .ok (.lcmp, 1)) (hd2 : decode (miC M) (pc + 1) = .ok (.ifCond .ge off, 3)) (ht : ((pc + 1 : Nat) : Int) + off = (tgt : Int)) (ha : R64 a) (hb : R64 b) (kt : b ≤ a → TT M tgt ls st σ P) (kf : ¬ b ≤ a → TT M (pc + 1 + 3) ls st σ P) : TT M pc ls (vL b :: vL a :: st) σ P := by
  refine TT_lcmp hd ha hb ?_
  refine TT_if_ge hd2 ht (R32_sg a b) (fun q => kt ?_) (fun q => kf ?_)
  · by_cases h1 : b < a
    · rw [if_pos h1] at q; omega
    · rw [if_neg h1] at q
      by_cases h2 : a = b
      · rw [if_pos h2] at q; omega
      · rw [if_neg h2] at q; omega
  · by_cases h1 : b < a
    · rw [if_pos h1] at q; omega
    · rw [if_neg h1] at q
      by_cases h2 : a = b
      · rw [if_pos h2] at q; omega
      · rw [if_neg h2] at q; omega
theorem TT_lc_gt {M : MI} {pc : Nat} {ls st : List PV} {σ : Mem} {P : Option PV → Mem → Prop} {a b : Int} {off : Int} {tgt : Nat} (hd : decode (miC M) pc = .ok (.lcmp, 1)) (hd2 : decode (miC M) (pc + 1) = .ok (.ifCond .gt off, 3)) (ht : ((pc + 1 : Nat) : Int) + off = (tgt : Int)) (ha : R64 a) (hb : R64 b) (kt : b < a → TT M tgt ls st σ P) (kf : ¬ b < a → TT M (pc + 1 + 3) ls st σ P) : TT M pc ls (vL b :: vL a :: st) σ P := by
  refine TT_lcmp hd ha hb ?_
  refine TT_if_gt hd2 ht (R32_sg a b) (fun q => kt ?_) (fun q => kf ?_)
  · by_cases h1 : b < a
    · rw [if_pos h1] at q; omega
    · rw [if_neg h1] at q
      by_cases h2 : a = b
      · rw [if_pos h2] at q; omega
      · rw [if_neg h2] at q; omega
  · by_cases h1 : b < a
    · rw [if_pos h1] at q; omega
    · rw [if_neg h1] at q
      by_cases h2 : a = b
      · rw [if_pos h2] at q; omega
      · rw [if_neg h2] at q; omega
theorem TT_lc_le {M : MI} {pc : Nat} {ls st : List PV} {σ : Mem} {P : Option PV → Mem → Prop} {a b : Int} {off : Int} {tgt : Nat} (hd : decode (miC M) pc = .ok (.lcmp, 1)) (hd2 : decode (miC M) (pc + 1) = .ok (.ifCond .le off, 3)) (ht : ((pc + 1 : Nat) : Int) + off = (tgt : Int)) (ha : R64 a) (hb : R64 b) (kt : a ≤ b → TT M tgt ls st σ P) (kf : ¬ a ≤ b → TT M (pc + 1 + 3) ls st σ P) : TT M pc ls (vL b :: vL a :: st) σ P := by
  refine TT_lcmp hd ha hb ?_
  refine TT_if_le hd2 ht (R32_sg a b) (fun q => kt ?_) (fun q => kf ?_)
  · by_cases h1 : b < a
    · rw [if_pos h1] at q; omega
    · rw [if_neg h1] at q
      by_cases h2 : a = b
      · rw [if_pos h2] at q; omega
      · rw [if_neg h2] at q; omega
  · by_cases h1 : b < a
    · rw [if_pos h1] at q; omega
    · rw [if_neg h1] at q
      by_cases h2 : a = b
      · rw [if_pos h2] at q; omega
      · rw [if_neg h2] at q; omega
def trk (i : Int) : Nat := 34 + 4 * i.toNat
def std (i : Int) : Nat := 74 + i.toNat
def isT (a : Nat) : Prop := ∃ k, k < 10 ∧ a = 34 + 4 * k
theorem isT_trk {i : Int} (h : 0 ≤ i ∧ i < 10) : isT (trk i) := ⟨i.toNat, by omega, rfl⟩
theorem shT {a : Nat} (h : isT a) : SH a = (8, 5) := by obtain ⟨k, hk, rfl⟩ := h; exact (by decide : ∀ k, k < 10 → SH (34 + 4 * k) = (8, 5)) k hk
theorem ltT {a : Nat} (h : isT a) : a < N0 := by obtain ⟨k, hk, rfl⟩ := h; show _ < 101; omega
theorem rsT0 {a : Nat} (h : isT a) : RS a 0 = ((a + 1 : Nat) : Int) := by obtain ⟨k, hk, rfl⟩ := h; exact (by decide : ∀ k, k < 10 → RS (34 + 4 * k) 0 = ((34 + 4 * k + 1 : Nat) : Int)) k hk
theorem rsT1 {a : Nat} (h : isT a) : RS a 1 = ((a + 2 : Nat) : Int) := by obtain ⟨k, hk, rfl⟩ := h; exact (by decide : ∀ k, k < 10 → RS (34 + 4 * k) 1 = ((34 + 4 * k + 2 : Nat) : Int)) k hk
theorem rsT2 {a : Nat} (h : isT a) : RS a 2 = ((a + 3 : Nat) : Int) := by obtain ⟨k, hk, rfl⟩ := h; exact (by decide : ∀ k, k < 10 → RS (34 + 4 * k) 2 = ((34 + 4 * k + 3 : Nat) : Int)) k hk
theorem shT1 {a : Nat} (h : isT a) : SH (a + 1) = (20, 24) := by obtain ⟨k, hk, rfl⟩ := h; exact (by decide : ∀ k, k < 10 → SH (34 + 4 * k + 1) = (20, 24)) k hk
theorem shT2 {a : Nat} (h : isT a) : SH (a + 2) = (20, 24) := by obtain ⟨k, hk, rfl⟩ := h; exact (by decide : ∀ k, k < 10 → SH (34 + 4 * k + 2) = (20, 24)) k hk
theorem shT3 {a : Nat} (h : isT a) : SH (a + 3) = (20, 24) := by obtain ⟨k, hk, rfl⟩ := h; exact (by decide : ∀ k, k < 10 → SH (34 + 4 * k + 3) = (20, 24)) k hk
theorem ltT1 {a : Nat} (h : isT a) : a + 1 < N0 := by obtain ⟨k, hk, rfl⟩ := h; show _ < 101; omega
theorem ltT2 {a : Nat} (h : isT a) : a + 2 < N0 := by obtain ⟨k, hk, rfl⟩ := h; show _ < 101; omega
theorem ltT3 {a : Nat} (h : isT a) : a + 3 < N0 := by obtain ⟨k, hk, rfl⟩ := h; show _ < 101; omega
theorem rs_trk {i : Int} (h : 0 ≤ i ∧ i < (10 : Nat)) : RS 1 i.toNat = ((trk i : Nat) : Int) := by
  have : i.toNat < 10 := by omega
  exact (by decide : ∀ k, k < 10 → RS 1 k = ((34 + 4 * k : Nat) : Int)) _ this
theorem rs_std {i : Int} (h : 0 ≤ i ∧ i < (6 : Nat)) : RS 2 i.toNat = ((std i : Nat) : Int) := by
  have : i.toNat < 6 := by omega
  exact (by decide : ∀ k, k < 6 → RS 2 k = ((74 + k : Nat) : Int)) _ this
/-- a place: the asked one, or a stand's -/
def isP (a : Nat) : Prop := a = 3 ∨ ∃ k, k < 6 ∧ a = 74 + k
theorem isP_std {i : Int} (h : 0 ≤ i ∧ i < 6) : isP (std i) := Or.inr ⟨i.toNat, by omega, rfl⟩
theorem shP {a : Nat} (h : isP a) : SH a = (3, 4) := by
  rcases h with rfl | ⟨k, hk, rfl⟩
  · rfl
  · exact (by decide : ∀ k, k < 6 → SH (74 + k) = (3, 4)) k hk
theorem ltP {a : Nat} (h : isP a) : a < N0 := by rcases h with rfl | ⟨k, hk, rfl⟩ <;> (show _ < 101; omega)
def isO (a : Nat) : Prop := a = 4 ∨ a = 5
theorem shO {a : Nat} (h : isO a) : SH a = (6, 3) := by rcases h with rfl | rfl <;> rfl
theorem ltO {a : Nat} (h : isO a) : a < N0 := by rcases h with rfl | rfl <;> decide
/-- boxes: of legs, of pages, the trial's, the wanted one -/
def isB (a : Nat) : Prop := a = 14 ∨ a = 16 ∨ a = 25 ∨ a = 27
def bln (a : Nat) : Nat := (SH (a + 1)).2
theorem shB {a : Nat} (h : isB a) : SH a = (0, 1) := by rcases h with rfl | rfl | rfl | rfl <;> rfl
theorem ltB {a : Nat} (h : isB a) : a < N0 := by rcases h with rfl | rfl | rfl | rfl <;> decide
theorem rsB {a : Nat} (h : isB a) : RS a 0 = ((a + 1 : Nat) : Int) := by rcases h with rfl | rfl | rfl | rfl <;> rfl
theorem shB1 {a : Nat} (h : isB a) : SH (a + 1) = (20, bln a) := by rcases h with rfl | rfl | rfl | rfl <;> rfl
theorem ltB1 {a : Nat} (h : isB a) : a + 1 < N0 := by rcases h with rfl | rfl | rfl | rfl <;> decide
theorem lnB {a : Nat} (h : isB a) : bln a < 2147483648 := by rcases h with rfl | rfl | rfl | rfl <;> decide
end
