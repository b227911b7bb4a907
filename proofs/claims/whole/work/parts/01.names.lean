-- ===== PART A: goes FIRST, ahead of the names: the tables' words, and 'selects' of the private methods out of them =====
/-- a private method of a class that the tables say can be made, by its rows of tables_1 -/
def lw_okq (q : MethodName × Nat) : Prop := (q.1.cls ≠ "java/lang/invoke/MethodHandle" ∧ q.1.cls ≠ "java/lang/invoke/VarHandle") ∧ Cond.instantiable q.1.cls q.2 ∈ tables_1 ∧ Cond.privateMethod q.1 ∈ tables_1 ∧ Cond.instanceMethod q.1 ∈ tables_1
theorem lw_p0 : lw_okq (⟨"BlendCellar", "openTap", "()V"⟩, 20) := ⟨⟨by decide +kernel, by decide +kernel⟩, List.mem_of_getElem? (i := 24) (by decide +kernel), List.mem_of_getElem? (i := 354) (by decide +kernel), List.mem_of_getElem? (i := 355) (by decide +kernel)⟩
theorem lw_p1 : lw_okq (⟨"BlendCellar", "buildRow", "(III)J"⟩, 20) := ⟨⟨by decide +kernel, by decide +kernel⟩, List.mem_of_getElem? (i := 24) (by decide +kernel), List.mem_of_getElem? (i := 362) (by decide +kernel), List.mem_of_getElem? (i := 363) (by decide +kernel)⟩
theorem lw_p2 : lw_okq (⟨"BlendCellar", "remember", "()V"⟩, 20) := ⟨⟨by decide +kernel, by decide +kernel⟩, List.mem_of_getElem? (i := 24) (by decide +kernel), List.mem_of_getElem? (i := 370) (by decide +kernel), List.mem_of_getElem? (i := 371) (by decide +kernel)⟩
theorem lw_p3 : lw_okq (⟨"BlendCellar", "closeTap", "(J)J"⟩, 20) := ⟨⟨by decide +kernel, by decide +kernel⟩, List.mem_of_getElem? (i := 24) (by decide +kernel), List.mem_of_getElem? (i := 411) (by decide +kernel), List.mem_of_getElem? (i := 412) (by decide +kernel)⟩
theorem lw_p4 : lw_okq (⟨"BlendCellar", "makeBarrel", "(III)J"⟩, 20) := ⟨⟨by decide +kernel, by decide +kernel⟩, List.mem_of_getElem? (i := 24) (by decide +kernel), List.mem_of_getElem? (i := 419) (by decide +kernel), List.mem_of_getElem? (i := 420) (by decide +kernel)⟩
theorem lw_p5 : lw_okq (⟨"java/util/ArrayList", "add", "(Ljava/lang/Object;[Ljava/lang/Object;I)V"⟩, 3) := ⟨⟨by decide +kernel, by decide +kernel⟩, List.mem_of_getElem? (i := 32) (by decide +kernel), List.mem_of_getElem? (i := 500) (by decide +kernel), List.mem_of_getElem? (i := 501) (by decide +kernel)⟩
theorem lw_p6 : lw_okq (⟨"java/util/ArrayList", "grow", "()[Ljava/lang/Object;"⟩, 3) := ⟨⟨by decide +kernel, by decide +kernel⟩, List.mem_of_getElem? (i := 32) (by decide +kernel), List.mem_of_getElem? (i := 504) (by decide +kernel), List.mem_of_getElem? (i := 505) (by decide +kernel)⟩
theorem lw_p7 : lw_okq (⟨"java/util/ArrayList", "grow", "(I)[Ljava/lang/Object;"⟩, 3) := ⟨⟨by decide +kernel, by decide +kernel⟩, List.mem_of_getElem? (i := 32) (by decide +kernel), List.mem_of_getElem? (i := 508) (by decide +kernel), List.mem_of_getElem? (i := 509) (by decide +kernel)⟩
theorem lw_p8 : lw_okq (⟨"BlendCellar", "joinCask", "(II)J"⟩, 20) := ⟨⟨by decide +kernel, by decide +kernel⟩, List.mem_of_getElem? (i := 24) (by decide +kernel), List.mem_of_getElem? (i := 559) (by decide +kernel), List.mem_of_getElem? (i := 560) (by decide +kernel)⟩
theorem lw_p9 : lw_okq (⟨"BlendCellar", "lookUpCask", "(I)I"⟩, 20) := ⟨⟨by decide +kernel, by decide +kernel⟩, List.mem_of_getElem? (i := 24) (by decide +kernel), List.mem_of_getElem? (i := 563) (by decide +kernel), List.mem_of_getElem? (i := 564) (by decide +kernel)⟩
theorem lw_p10 : lw_okq (⟨"BlendCellar", "lookUp", "(I)I"⟩, 20) := ⟨⟨by decide +kernel, by decide +kernel⟩, List.mem_of_getElem? (i := 24) (by decide +kernel), List.mem_of_getElem? (i := 567) (by decide +kernel), List.mem_of_getElem? (i := 568) (by decide +kernel)⟩
theorem lw_p11 : lw_okq (⟨"BlendCellar", "lookUpVessel", "(I)I"⟩, 20) := ⟨⟨by decide +kernel, by decide +kernel⟩, List.mem_of_getElem? (i := 24) (by decide +kernel), List.mem_of_getElem? (i := 585) (by decide +kernel), List.mem_of_getElem? (i := 586) (by decide +kernel)⟩
theorem lw_p12 : lw_okq (⟨"BlendCellar", "leaveCask", "(I)J"⟩, 20) := ⟨⟨by decide +kernel, by decide +kernel⟩, List.mem_of_getElem? (i := 24) (by decide +kernel), List.mem_of_getElem? (i := 619) (by decide +kernel), List.mem_of_getElem? (i := 620) (by decide +kernel)⟩
theorem lw_p13 : lw_okq (⟨"BlendCellar", "layBarrel", "(III)J"⟩, 20) := ⟨⟨by decide +kernel, by decide +kernel⟩, List.mem_of_getElem? (i := 24) (by decide +kernel), List.mem_of_getElem? (i := 627) (by decide +kernel), List.mem_of_getElem? (i := 628) (by decide +kernel)⟩
theorem lw_p14 : lw_okq (⟨"BlendCellar", "readPlace", "(II)I"⟩, 20) := ⟨⟨by decide +kernel, by decide +kernel⟩, List.mem_of_getElem? (i := 24) (by decide +kernel), List.mem_of_getElem? (i := 631) (by decide +kernel), List.mem_of_getElem? (i := 632) (by decide +kernel)⟩
theorem lw_p15 : lw_okq (⟨"BlendCellar", "liftBarrel", "(II)J"⟩, 20) := ⟨⟨by decide +kernel, by decide +kernel⟩, List.mem_of_getElem? (i := 24) (by decide +kernel), List.mem_of_getElem? (i := 648) (by decide +kernel), List.mem_of_getElem? (i := 649) (by decide +kernel)⟩
def lw_privs_1 : List (MethodName × Nat) := [(⟨"BlendCellar", "openTap", "()V"⟩, 20), (⟨"BlendCellar", "buildRow", "(III)J"⟩, 20), (⟨"BlendCellar", "remember", "()V"⟩, 20), (⟨"BlendCellar", "closeTap", "(J)J"⟩, 20), (⟨"BlendCellar", "makeBarrel", "(III)J"⟩, 20), (⟨"java/util/ArrayList", "add", "(Ljava/lang/Object;[Ljava/lang/Object;I)V"⟩, 3), (⟨"java/util/ArrayList", "grow", "()[Ljava/lang/Object;"⟩, 3), (⟨"java/util/ArrayList", "grow", "(I)[Ljava/lang/Object;"⟩, 3), (⟨"BlendCellar", "joinCask", "(II)J"⟩, 20), (⟨"BlendCellar", "lookUpCask", "(I)I"⟩, 20), (⟨"BlendCellar", "lookUp", "(I)I"⟩, 20), (⟨"BlendCellar", "lookUpVessel", "(I)I"⟩, 20), (⟨"BlendCellar", "leaveCask", "(I)J"⟩, 20), (⟨"BlendCellar", "layBarrel", "(III)J"⟩, 20), (⟨"BlendCellar", "readPlace", "(II)I"⟩, 20), (⟨"BlendCellar", "liftBarrel", "(II)J"⟩, 20)]
theorem lw_r1 : ∀ q ∈ lw_privs_1, lw_okq q := List.forall_mem_cons.mpr ⟨lw_p0, List.forall_mem_cons.mpr ⟨lw_p1, List.forall_mem_cons.mpr ⟨lw_p2, List.forall_mem_cons.mpr ⟨lw_p3, List.forall_mem_cons.mpr ⟨lw_p4, List.forall_mem_cons.mpr ⟨lw_p5, List.forall_mem_cons.mpr ⟨lw_p6, List.forall_mem_cons.mpr ⟨lw_p7, List.forall_mem_cons.mpr ⟨lw_p8, List.forall_mem_cons.mpr ⟨lw_p9, List.forall_mem_cons.mpr ⟨lw_p10, List.forall_mem_cons.mpr ⟨lw_p11, List.forall_mem_cons.mpr ⟨lw_p12, List.forall_mem_cons.mpr ⟨lw_p13, List.forall_mem_cons.mpr ⟨lw_p14, List.forall_mem_cons.mpr ⟨lw_p15, fun _ h => absurd h List.not_mem_nil⟩⟩⟩⟩⟩⟩⟩⟩⟩⟩⟩⟩⟩⟩⟩⟩
theorem lw_p16 : lw_okq (⟨"BlendCellar", "find", "(I)LBlendCellar$Barrel;"⟩, 20) := ⟨⟨by decide +kernel, by decide +kernel⟩, List.mem_of_getElem? (i := 24) (by decide +kernel), List.mem_of_getElem? (i := 652) (by decide +kernel), List.mem_of_getElem? (i := 653) (by decide +kernel)⟩
theorem lw_p17 : lw_okq (⟨"BlendCellar", "tellCents", "(II)J"⟩, 20) := ⟨⟨by decide +kernel, by decide +kernel⟩, List.mem_of_getElem? (i := 24) (by decide +kernel), List.mem_of_getElem? (i := 661) (by decide +kernel), List.mem_of_getElem? (i := 662) (by decide +kernel)⟩
theorem lw_p18 : lw_okq (⟨"BlendCellar", "fillVessel", "(IIJ)J"⟩, 20) := ⟨⟨by decide +kernel, by decide +kernel⟩, List.mem_of_getElem? (i := 24) (by decide +kernel), List.mem_of_getElem? (i := 669) (by decide +kernel), List.mem_of_getElem? (i := 670) (by decide +kernel)⟩
theorem lw_p19 : lw_okq (⟨"BlendCellar", "lookUpFreeVessel", "(I)I"⟩, 20) := ⟨⟨by decide +kernel, by decide +kernel⟩, List.mem_of_getElem? (i := 24) (by decide +kernel), List.mem_of_getElem? (i := 677) (by decide +kernel), List.mem_of_getElem? (i := 678) (by decide +kernel)⟩
theorem lw_p20 : lw_okq (⟨"BlendCellar$Barrel", "vesselTakes", "(LBlendCellar$Trace;)J"⟩, 14) := ⟨⟨by decide +kernel, by decide +kernel⟩, List.mem_of_getElem? (i := 429) (by decide +kernel), List.mem_of_getElem? (i := 689) (by decide +kernel), List.mem_of_getElem? (i := 690) (by decide +kernel)⟩
theorem lw_p21 : lw_okq (⟨"BlendCellar$Barrel", "steelTakes", "(LBlendCellar$Trace;)J"⟩, 14) := ⟨⟨by decide +kernel, by decide +kernel⟩, List.mem_of_getElem? (i := 429) (by decide +kernel), List.mem_of_getElem? (i := 693) (by decide +kernel), List.mem_of_getElem? (i := 694) (by decide +kernel)⟩
theorem lw_p22 : lw_okq (⟨"BlendCellar$Wine", "indexOf", "(I)I"⟩, 4) := ⟨⟨by decide +kernel, by decide +kernel⟩, List.mem_of_getElem? (i := 147) (by decide +kernel), List.mem_of_getElem? (i := 710) (by decide +kernel), List.mem_of_getElem? (i := 711) (by decide +kernel)⟩
theorem lw_p23 : lw_okq (⟨"BlendCellar$Wine", "isAt", "(II)Z"⟩, 4) := ⟨⟨by decide +kernel, by decide +kernel⟩, List.mem_of_getElem? (i := 147) (by decide +kernel), List.mem_of_getElem? (i := 714) (by decide +kernel), List.mem_of_getElem? (i := 715) (by decide +kernel)⟩
theorem lw_p24 : lw_okq (⟨"BlendCellar", "rackWine", "(IIJ)J"⟩, 20) := ⟨⟨by decide +kernel, by decide +kernel⟩, List.mem_of_getElem? (i := 24) (by decide +kernel), List.mem_of_getElem? (i := 754) (by decide +kernel), List.mem_of_getElem? (i := 755) (by decide +kernel)⟩
theorem lw_p25 : lw_okq (⟨"BlendCellar", "checkPair", "(II)I"⟩, 20) := ⟨⟨by decide +kernel, by decide +kernel⟩, List.mem_of_getElem? (i := 24) (by decide +kernel), List.mem_of_getElem? (i := 758) (by decide +kernel), List.mem_of_getElem? (i := 759) (by decide +kernel)⟩
theorem lw_p26 : lw_okq (⟨"BlendCellar$Barrel", "vesselSpares", "(LBlendCellar$Trace;)J"⟩, 14) := ⟨⟨by decide +kernel, by decide +kernel⟩, List.mem_of_getElem? (i := 429) (by decide +kernel), List.mem_of_getElem? (i := 766) (by decide +kernel), List.mem_of_getElem? (i := 767) (by decide +kernel)⟩
theorem lw_p27 : lw_okq (⟨"BlendCellar$Barrel", "oakSpares", "(LBlendCellar$Trace;)J"⟩, 14) := ⟨⟨by decide +kernel, by decide +kernel⟩, List.mem_of_getElem? (i := 429) (by decide +kernel), List.mem_of_getElem? (i := 770) (by decide +kernel), List.mem_of_getElem? (i := 771) (by decide +kernel)⟩
theorem lw_p28 : lw_okq (⟨"BlendCellar$Drawing", "drawFromVessel", "(LBlendCellar$Barrel;J)V"⟩, 5) := ⟨⟨by decide +kernel, by decide +kernel⟩, List.mem_of_getElem? (i := 195) (by decide +kernel), List.mem_of_getElem? (i := 787) (by decide +kernel), List.mem_of_getElem? (i := 788) (by decide +kernel)⟩
theorem lw_p29 : lw_okq (⟨"BlendCellar$Drawing", "reckonShares", "(LBlendCellar$Wine;J)V"⟩, 5) := ⟨⟨by decide +kernel, by decide +kernel⟩, List.mem_of_getElem? (i := 195) (by decide +kernel), List.mem_of_getElem? (i := 791) (by decide +kernel), List.mem_of_getElem? (i := 792) (by decide +kernel)⟩
theorem lw_p30 : lw_okq (⟨"BlendCellar$Drawing", "addGoing", "(LBlendCellar$Wine;LBlendCellar$Wine;)V"⟩, 5) := ⟨⟨by decide +kernel, by decide +kernel⟩, List.mem_of_getElem? (i := 195) (by decide +kernel), List.mem_of_getElem? (i := 795) (by decide +kernel), List.mem_of_getElem? (i := 796) (by decide +kernel)⟩
theorem lw_p31 : lw_okq (⟨"BlendCellar", "hasTooManyPartsFor", "(LBlendCellar$Barrel;)Z"⟩, 20) := ⟨⟨by decide +kernel, by decide +kernel⟩, List.mem_of_getElem? (i := 24) (by decide +kernel), List.mem_of_getElem? (i := 804) (by decide +kernel), List.mem_of_getElem? (i := 805) (by decide +kernel)⟩
def lw_privs_2 : List (MethodName × Nat) := [(⟨"BlendCellar", "find", "(I)LBlendCellar$Barrel;"⟩, 20), (⟨"BlendCellar", "tellCents", "(II)J"⟩, 20), (⟨"BlendCellar", "fillVessel", "(IIJ)J"⟩, 20), (⟨"BlendCellar", "lookUpFreeVessel", "(I)I"⟩, 20), (⟨"BlendCellar$Barrel", "vesselTakes", "(LBlendCellar$Trace;)J"⟩, 14), (⟨"BlendCellar$Barrel", "steelTakes", "(LBlendCellar$Trace;)J"⟩, 14), (⟨"BlendCellar$Wine", "indexOf", "(I)I"⟩, 4), (⟨"BlendCellar$Wine", "isAt", "(II)Z"⟩, 4), (⟨"BlendCellar", "rackWine", "(IIJ)J"⟩, 20), (⟨"BlendCellar", "checkPair", "(II)I"⟩, 20), (⟨"BlendCellar$Barrel", "vesselSpares", "(LBlendCellar$Trace;)J"⟩, 14), (⟨"BlendCellar$Barrel", "oakSpares", "(LBlendCellar$Trace;)J"⟩, 14), (⟨"BlendCellar$Drawing", "drawFromVessel", "(LBlendCellar$Barrel;J)V"⟩, 5), (⟨"BlendCellar$Drawing", "reckonShares", "(LBlendCellar$Wine;J)V"⟩, 5), (⟨"BlendCellar$Drawing", "addGoing", "(LBlendCellar$Wine;LBlendCellar$Wine;)V"⟩, 5), (⟨"BlendCellar", "hasTooManyPartsFor", "(LBlendCellar$Barrel;)Z"⟩, 20)]
theorem lw_r2 : ∀ q ∈ lw_privs_2, lw_okq q := List.forall_mem_cons.mpr ⟨lw_p16, List.forall_mem_cons.mpr ⟨lw_p17, List.forall_mem_cons.mpr ⟨lw_p18, List.forall_mem_cons.mpr ⟨lw_p19, List.forall_mem_cons.mpr ⟨lw_p20, List.forall_mem_cons.mpr ⟨lw_p21, List.forall_mem_cons.mpr ⟨lw_p22, List.forall_mem_cons.mpr ⟨lw_p23, List.forall_mem_cons.mpr ⟨lw_p24, List.forall_mem_cons.mpr ⟨lw_p25, List.forall_mem_cons.mpr ⟨lw_p26, List.forall_mem_cons.mpr ⟨lw_p27, List.forall_mem_cons.mpr ⟨lw_p28, List.forall_mem_cons.mpr ⟨lw_p29, List.forall_mem_cons.mpr ⟨lw_p30, List.forall_mem_cons.mpr ⟨lw_p31, fun _ h => absurd h List.not_mem_nil⟩⟩⟩⟩⟩⟩⟩⟩⟩⟩⟩⟩⟩⟩⟩⟩
theorem lw_p32 : lw_okq (⟨"BlendCellar", "pourInto", "(LBlendCellar$Barrel;)V"⟩, 20) := ⟨⟨by decide +kernel, by decide +kernel⟩, List.mem_of_getElem? (i := 24) (by decide +kernel), List.mem_of_getElem? (i := 812) (by decide +kernel), List.mem_of_getElem? (i := 813) (by decide +kernel)⟩
theorem lw_p33 : lw_okq (⟨"BlendCellar", "topUpVessel", "(II)J"⟩, 20) := ⟨⟨by decide +kernel, by decide +kernel⟩, List.mem_of_getElem? (i := 24) (by decide +kernel), List.mem_of_getElem? (i := 834) (by decide +kernel), List.mem_of_getElem? (i := 835) (by decide +kernel)⟩
theorem lw_p34 : lw_okq (⟨"BlendCellar", "pickBarrel", "(IJ)J"⟩, 20) := ⟨⟨by decide +kernel, by decide +kernel⟩, List.mem_of_getElem? (i := 24) (by decide +kernel), List.mem_of_getElem? (i := 844) (by decide +kernel), List.mem_of_getElem? (i := 845) (by decide +kernel)⟩
theorem lw_p35 : lw_okq (⟨"BlendCellar", "blendInto", "(I)J"⟩, 20) := ⟨⟨by decide +kernel, by decide +kernel⟩, List.mem_of_getElem? (i := 24) (by decide +kernel), List.mem_of_getElem? (i := 869) (by decide +kernel), List.mem_of_getElem? (i := 870) (by decide +kernel)⟩
theorem lw_p36 : lw_okq (⟨"BlendCellar", "drawPicked", "()V"⟩, 20) := ⟨⟨by decide +kernel, by decide +kernel⟩, List.mem_of_getElem? (i := 24) (by decide +kernel), List.mem_of_getElem? (i := 887) (by decide +kernel), List.mem_of_getElem? (i := 888) (by decide +kernel)⟩
theorem lw_p37 : lw_okq (⟨"BlendCellar", "letMonthsGoBy", "(I)J"⟩, 20) := ⟨⟨by decide +kernel, by decide +kernel⟩, List.mem_of_getElem? (i := 24) (by decide +kernel), List.mem_of_getElem? (i := 896) (by decide +kernel), List.mem_of_getElem? (i := 897) (by decide +kernel)⟩
theorem lw_p38 : lw_okq (⟨"BlendCellar", "breatheAway", "(LBlendCellar$Barrel;JI)J"⟩, 20) := ⟨⟨by decide +kernel, by decide +kernel⟩, List.mem_of_getElem? (i := 24) (by decide +kernel), List.mem_of_getElem? (i := 909) (by decide +kernel), List.mem_of_getElem? (i := 910) (by decide +kernel)⟩
theorem lw_p39 : lw_okq (⟨"BlendCellar", "fillBottles", "(IIJ)J"⟩, 20) := ⟨⟨by decide +kernel, by decide +kernel⟩, List.mem_of_getElem? (i := 24) (by decide +kernel), List.mem_of_getElem? (i := 920) (by decide +kernel), List.mem_of_getElem? (i := 921) (by decide +kernel)⟩
theorem lw_p40 : lw_okq (⟨"BlendCellar", "drawOff", "(LBlendCellar$Barrel;JI)V"⟩, 20) := ⟨⟨by decide +kernel, by decide +kernel⟩, List.mem_of_getElem? (i := 24) (by decide +kernel), List.mem_of_getElem? (i := 925) (by decide +kernel), List.mem_of_getElem? (i := 926) (by decide +kernel)⟩
theorem lw_p41 : lw_okq (⟨"BlendCellar", "drainVessel", "(IJI)J"⟩, 20) := ⟨⟨by decide +kernel, by decide +kernel⟩, List.mem_of_getElem? (i := 24) (by decide +kernel), List.mem_of_getElem? (i := 934) (by decide +kernel), List.mem_of_getElem? (i := 935) (by decide +kernel)⟩
theorem lw_p42 : lw_okq (⟨"BlendCellar", "washVessel", "(I)J"⟩, 20) := ⟨⟨by decide +kernel, by decide +kernel⟩, List.mem_of_getElem? (i := 24) (by decide +kernel), List.mem_of_getElem? (i := 944) (by decide +kernel), List.mem_of_getElem? (i := 945) (by decide +kernel)⟩
theorem lw_p43 : lw_okq (⟨"BlendCellar", "lookUpPart", "(II)I"⟩, 20) := ⟨⟨by decide +kernel, by decide +kernel⟩, List.mem_of_getElem? (i := 24) (by decide +kernel), List.mem_of_getElem? (i := 953) (by decide +kernel), List.mem_of_getElem? (i := 954) (by decide +kernel)⟩
theorem lw_p44 : lw_okq (⟨"BlendCellar", "roomOf", "(LBlendCellar$Barrel;)J"⟩, 20) := ⟨⟨by decide +kernel, by decide +kernel⟩, List.mem_of_getElem? (i := 24) (by decide +kernel), List.mem_of_getElem? (i := 965) (by decide +kernel), List.mem_of_getElem? (i := 966) (by decide +kernel)⟩
theorem lw_p45 : lw_okq (⟨"BlendCellar", "makeLabel", "()J"⟩, 20) := ⟨⟨by decide +kernel, by decide +kernel⟩, List.mem_of_getElem? (i := 24) (by decide +kernel), List.mem_of_getElem? (i := 977) (by decide +kernel), List.mem_of_getElem? (i := 978) (by decide +kernel)⟩
theorem lw_p46 : lw_okq (⟨"BlendCellar", "makeRule", "(IIIII)J"⟩, 20) := ⟨⟨by decide +kernel, by decide +kernel⟩, List.mem_of_getElem? (i := 24) (by decide +kernel), List.mem_of_getElem? (i := 1018) (by decide +kernel), List.mem_of_getElem? (i := 1019) (by decide +kernel)⟩
theorem lw_p47 : lw_okq (⟨"BlendCellar", "lookUpLabel", "(I)I"⟩, 20) := ⟨⟨by decide +kernel, by decide +kernel⟩, List.mem_of_getElem? (i := 24) (by decide +kernel), List.mem_of_getElem? (i := 1025) (by decide +kernel), List.mem_of_getElem? (i := 1026) (by decide +kernel)⟩
def lw_privs_3 : List (MethodName × Nat) := [(⟨"BlendCellar", "pourInto", "(LBlendCellar$Barrel;)V"⟩, 20), (⟨"BlendCellar", "topUpVessel", "(II)J"⟩, 20), (⟨"BlendCellar", "pickBarrel", "(IJ)J"⟩, 20), (⟨"BlendCellar", "blendInto", "(I)J"⟩, 20), (⟨"BlendCellar", "drawPicked", "()V"⟩, 20), (⟨"BlendCellar", "letMonthsGoBy", "(I)J"⟩, 20), (⟨"BlendCellar", "breatheAway", "(LBlendCellar$Barrel;JI)J"⟩, 20), (⟨"BlendCellar", "fillBottles", "(IIJ)J"⟩, 20), (⟨"BlendCellar", "drawOff", "(LBlendCellar$Barrel;JI)V"⟩, 20), (⟨"BlendCellar", "drainVessel", "(IJI)J"⟩, 20), (⟨"BlendCellar", "washVessel", "(I)J"⟩, 20), (⟨"BlendCellar", "lookUpPart", "(II)I"⟩, 20), (⟨"BlendCellar", "roomOf", "(LBlendCellar$Barrel;)J"⟩, 20), (⟨"BlendCellar", "makeLabel", "()J"⟩, 20), (⟨"BlendCellar", "makeRule", "(IIIII)J"⟩, 20), (⟨"BlendCellar", "lookUpLabel", "(I)I"⟩, 20)]
theorem lw_r3 : ∀ q ∈ lw_privs_3, lw_okq q := List.forall_mem_cons.mpr ⟨lw_p32, List.forall_mem_cons.mpr ⟨lw_p33, List.forall_mem_cons.mpr ⟨lw_p34, List.forall_mem_cons.mpr ⟨lw_p35, List.forall_mem_cons.mpr ⟨lw_p36, List.forall_mem_cons.mpr ⟨lw_p37, List.forall_mem_cons.mpr ⟨lw_p38, List.forall_mem_cons.mpr ⟨lw_p39, List.forall_mem_cons.mpr ⟨lw_p40, List.forall_mem_cons.mpr ⟨lw_p41, List.forall_mem_cons.mpr ⟨lw_p42, List.forall_mem_cons.mpr ⟨lw_p43, List.forall_mem_cons.mpr ⟨lw_p44, List.forall_mem_cons.mpr ⟨lw_p45, List.forall_mem_cons.mpr ⟨lw_p46, List.forall_mem_cons.mpr ⟨lw_p47, fun _ h => absurd h List.not_mem_nil⟩⟩⟩⟩⟩⟩⟩⟩⟩⟩⟩⟩⟩⟩⟩⟩
theorem lw_p48 : lw_okq (⟨"BlendCellar", "judgeBarrel", "(II)J"⟩, 20) := ⟨⟨by decide +kernel, by decide +kernel⟩, List.mem_of_getElem? (i := 24) (by decide +kernel), List.mem_of_getElem? (i := 1041) (by decide +kernel), List.mem_of_getElem? (i := 1042) (by decide +kernel)⟩
theorem lw_p49 : lw_okq (⟨"BlendCellar$Label", "answerOfLeaf", "(ILBlendCellar$Tally;)I"⟩, 8) := ⟨⟨by decide +kernel, by decide +kernel⟩, List.mem_of_getElem? (i := 981) (by decide +kernel), List.mem_of_getElem? (i := 1075) (by decide +kernel), List.mem_of_getElem? (i := 1076) (by decide +kernel)⟩
theorem lw_p50 : lw_okq (⟨"BlendCellar", "planBlend", "(IJI)J"⟩, 20) := ⟨⟨by decide +kernel, by decide +kernel⟩, List.mem_of_getElem? (i := 24) (by decide +kernel), List.mem_of_getElem? (i := 1092) (by decide +kernel), List.mem_of_getElem? (i := 1093) (by decide +kernel)⟩
theorem lw_p51 : lw_okq (⟨"BlendCellar", "checkPicksForPlan", "()I"⟩, 20) := ⟨⟨by decide +kernel, by decide +kernel⟩, List.mem_of_getElem? (i := 24) (by decide +kernel), List.mem_of_getElem? (i := 1100) (by decide +kernel), List.mem_of_getElem? (i := 1101) (by decide +kernel)⟩
theorem lw_p52 : lw_okq (⟨"BlendCellar", "askForPlan", "(IJI)V"⟩, 20) := ⟨⟨by decide +kernel, by decide +kernel⟩, List.mem_of_getElem? (i := 24) (by decide +kernel), List.mem_of_getElem? (i := 1111) (by decide +kernel), List.mem_of_getElem? (i := 1112) (by decide +kernel)⟩
theorem lw_p53 : lw_okq (⟨"BlendCellar$Planner", "chooseFrom", "(IIJ)V"⟩, 10) := ⟨⟨by decide +kernel, by decide +kernel⟩, List.mem_of_getElem? (i := 106) (by decide +kernel), List.mem_of_getElem? (i := 1137) (by decide +kernel), List.mem_of_getElem? (i := 1138) (by decide +kernel)⟩
theorem lw_p54 : lw_okq (⟨"BlendCellar", "takeBack", "()J"⟩, 20) := ⟨⟨by decide +kernel, by decide +kernel⟩, List.mem_of_getElem? (i := 24) (by decide +kernel), List.mem_of_getElem? (i := 1153) (by decide +kernel), List.mem_of_getElem? (i := 1154) (by decide +kernel)⟩
theorem lw_p55 : lw_okq (⟨"java/util/ArrayList", "fastRemove", "([Ljava/lang/Object;I)V"⟩, 3) := ⟨⟨by decide +kernel, by decide +kernel⟩, List.mem_of_getElem? (i := 32) (by decide +kernel), List.mem_of_getElem? (i := 1172) (by decide +kernel), List.mem_of_getElem? (i := 1173) (by decide +kernel)⟩
theorem lw_p56 : lw_okq (⟨"BlendCellar", "restorePlace", "(II)V"⟩, 20) := ⟨⟨by decide +kernel, by decide +kernel⟩, List.mem_of_getElem? (i := 24) (by decide +kernel), List.mem_of_getElem? (i := 1177) (by decide +kernel), List.mem_of_getElem? (i := 1178) (by decide +kernel)⟩
theorem lw_p57 : lw_okq (⟨"BlendCellar", "seeRow", "(I)V"⟩, 20) := ⟨⟨by decide +kernel, by decide +kernel⟩, List.mem_of_getElem? (i := 24) (by decide +kernel), List.mem_of_getElem? (i := 1245) (by decide +kernel), List.mem_of_getElem? (i := 1246) (by decide +kernel)⟩
theorem lw_p58 : lw_okq (⟨"BlendCellarModel", "begin", "()V"⟩, 76) := ⟨⟨by decide +kernel, by decide +kernel⟩, List.mem_of_getElem? (i := 1334) (by decide +kernel), List.mem_of_getElem? (i := 1574) (by decide +kernel), List.mem_of_getElem? (i := 1575) (by decide +kernel)⟩
theorem lw_p59 : lw_okq (⟨"BlendCellarModel", "no", "(I)J"⟩, 76) := ⟨⟨by decide +kernel, by decide +kernel⟩, List.mem_of_getElem? (i := 1334) (by decide +kernel), List.mem_of_getElem? (i := 1578) (by decide +kernel), List.mem_of_getElem? (i := 1579) (by decide +kernel)⟩
theorem lw_p60 : lw_okq (⟨"BlendCellarModel", "keep", "()V"⟩, 76) := ⟨⟨by decide +kernel, by decide +kernel⟩, List.mem_of_getElem? (i := 1334) (by decide +kernel), List.mem_of_getElem? (i := 1582) (by decide +kernel), List.mem_of_getElem? (i := 1583) (by decide +kernel)⟩
theorem lw_p61 : lw_okq (⟨"BlendCellarModel", "lookedCask", "(I)I"⟩, 76) := ⟨⟨by decide +kernel, by decide +kernel⟩, List.mem_of_getElem? (i := 1334) (by decide +kernel), List.mem_of_getElem? (i := 1596) (by decide +kernel), List.mem_of_getElem? (i := 1597) (by decide +kernel)⟩
theorem lw_p62 : lw_okq (⟨"BlendCellarModel", "lookedVessel", "(I)I"⟩, 76) := ⟨⟨by decide +kernel, by decide +kernel⟩, List.mem_of_getElem? (i := 1334) (by decide +kernel), List.mem_of_getElem? (i := 1600) (by decide +kernel), List.mem_of_getElem? (i := 1601) (by decide +kernel)⟩
theorem lw_p63 : lw_okq (⟨"BlendCellarModel", "looked", "(I)I"⟩, 76) := ⟨⟨by decide +kernel, by decide +kernel⟩, List.mem_of_getElem? (i := 1334) (by decide +kernel), List.mem_of_getElem? (i := 1612) (by decide +kernel), List.mem_of_getElem? (i := 1613) (by decide +kernel)⟩
def lw_privs_4 : List (MethodName × Nat) := [(⟨"BlendCellar", "judgeBarrel", "(II)J"⟩, 20), (⟨"BlendCellar$Label", "answerOfLeaf", "(ILBlendCellar$Tally;)I"⟩, 8), (⟨"BlendCellar", "planBlend", "(IJI)J"⟩, 20), (⟨"BlendCellar", "checkPicksForPlan", "()I"⟩, 20), (⟨"BlendCellar", "askForPlan", "(IJI)V"⟩, 20), (⟨"BlendCellar$Planner", "chooseFrom", "(IIJ)V"⟩, 10), (⟨"BlendCellar", "takeBack", "()J"⟩, 20), (⟨"java/util/ArrayList", "fastRemove", "([Ljava/lang/Object;I)V"⟩, 3), (⟨"BlendCellar", "restorePlace", "(II)V"⟩, 20), (⟨"BlendCellar", "seeRow", "(I)V"⟩, 20), (⟨"BlendCellarModel", "begin", "()V"⟩, 76), (⟨"BlendCellarModel", "no", "(I)J"⟩, 76), (⟨"BlendCellarModel", "keep", "()V"⟩, 76), (⟨"BlendCellarModel", "lookedCask", "(I)I"⟩, 76), (⟨"BlendCellarModel", "lookedVessel", "(I)I"⟩, 76), (⟨"BlendCellarModel", "looked", "(I)I"⟩, 76)]
theorem lw_r4 : ∀ q ∈ lw_privs_4, lw_okq q := List.forall_mem_cons.mpr ⟨lw_p48, List.forall_mem_cons.mpr ⟨lw_p49, List.forall_mem_cons.mpr ⟨lw_p50, List.forall_mem_cons.mpr ⟨lw_p51, List.forall_mem_cons.mpr ⟨lw_p52, List.forall_mem_cons.mpr ⟨lw_p53, List.forall_mem_cons.mpr ⟨lw_p54, List.forall_mem_cons.mpr ⟨lw_p55, List.forall_mem_cons.mpr ⟨lw_p56, List.forall_mem_cons.mpr ⟨lw_p57, List.forall_mem_cons.mpr ⟨lw_p58, List.forall_mem_cons.mpr ⟨lw_p59, List.forall_mem_cons.mpr ⟨lw_p60, List.forall_mem_cons.mpr ⟨lw_p61, List.forall_mem_cons.mpr ⟨lw_p62, List.forall_mem_cons.mpr ⟨lw_p63, fun _ h => absurd h List.not_mem_nil⟩⟩⟩⟩⟩⟩⟩⟩⟩⟩⟩⟩⟩⟩⟩⟩
theorem lw_p64 : lw_okq (⟨"BlendCellarModel", "readPlace", "(II)I"⟩, 76) := ⟨⟨by decide +kernel, by decide +kernel⟩, List.mem_of_getElem? (i := 1334) (by decide +kernel), List.mem_of_getElem? (i := 1616) (by decide +kernel), List.mem_of_getElem? (i := 1617) (by decide +kernel)⟩
theorem lw_p65 : lw_okq (⟨"BlendCellarModel", "isAmount", "(J)Z"⟩, 76) := ⟨⟨by decide +kernel, by decide +kernel⟩, List.mem_of_getElem? (i := 1334) (by decide +kernel), List.mem_of_getElem? (i := 1635) (by decide +kernel), List.mem_of_getElem? (i := 1636) (by decide +kernel)⟩
theorem lw_p66 : lw_okq (⟨"BlendCellarModel", "isInCask", "(I)Z"⟩, 76) := ⟨⟨by decide +kernel, by decide +kernel⟩, List.mem_of_getElem? (i := 1334) (by decide +kernel), List.mem_of_getElem? (i := 1640) (by decide +kernel), List.mem_of_getElem? (i := 1641) (by decide +kernel)⟩
theorem lw_p67 : lw_okq (⟨"BlendCellarModel", "most", "(I)J"⟩, 76) := ⟨⟨by decide +kernel, by decide +kernel⟩, List.mem_of_getElem? (i := 1334) (by decide +kernel), List.mem_of_getElem? (i := 1644) (by decide +kernel), List.mem_of_getElem? (i := 1645) (by decide +kernel)⟩
theorem lw_p68 : lw_okq (⟨"BlendCellarModel", "mostOfVessel", "(I)J"⟩, 76) := ⟨⟨by decide +kernel, by decide +kernel⟩, List.mem_of_getElem? (i := 1334) (by decide +kernel), List.mem_of_getElem? (i := 1648) (by decide +kernel), List.mem_of_getElem? (i := 1649) (by decide +kernel)⟩
theorem lw_p69 : lw_okq (⟨"BlendCellarModel", "ran", "(I)V"⟩, 76) := ⟨⟨by decide +kernel, by decide +kernel⟩, List.mem_of_getElem? (i := 1334) (by decide +kernel), List.mem_of_getElem? (i := 1652) (by decide +kernel), List.mem_of_getElem? (i := 1653) (by decide +kernel)⟩
theorem lw_p70 : lw_okq (⟨"BlendCellarModel", "inVessel", "(I)J"⟩, 76) := ⟨⟨by decide +kernel, by decide +kernel⟩, List.mem_of_getElem? (i := 1334) (by decide +kernel), List.mem_of_getElem? (i := 1660) (by decide +kernel), List.mem_of_getElem? (i := 1661) (by decide +kernel)⟩
theorem lw_p71 : lw_okq (⟨"BlendCellarModel", "mixInto", "(I)Z"⟩, 76) := ⟨⟨by decide +kernel, by decide +kernel⟩, List.mem_of_getElem? (i := 1334) (by decide +kernel), List.mem_of_getElem? (i := 1664) (by decide +kernel), List.mem_of_getElem? (i := 1665) (by decide +kernel)⟩
theorem lw_p72 : lw_okq (⟨"BlendCellarModel", "mix", "(IJ)V"⟩, 76) := ⟨⟨by decide +kernel, by decide +kernel⟩, List.mem_of_getElem? (i := 1334) (by decide +kernel), List.mem_of_getElem? (i := 1668) (by decide +kernel), List.mem_of_getElem? (i := 1669) (by decide +kernel)⟩
theorem lw_p73 : lw_okq (⟨"BlendCellarModel", "mixDraws", "()V"⟩, 76) := ⟨⟨by decide +kernel, by decide +kernel⟩, List.mem_of_getElem? (i := 1334) (by decide +kernel), List.mem_of_getElem? (i := 1672) (by decide +kernel), List.mem_of_getElem? (i := 1673) (by decide +kernel)⟩
theorem lw_p74 : lw_okq (⟨"BlendCellarModel", "shares", "(IJ)V"⟩, 76) := ⟨⟨by decide +kernel, by decide +kernel⟩, List.mem_of_getElem? (i := 1334) (by decide +kernel), List.mem_of_getElem? (i := 1676) (by decide +kernel), List.mem_of_getElem? (i := 1677) (by decide +kernel)⟩
theorem lw_p75 : lw_okq (⟨"BlendCellarModel", "become", "(I)V"⟩, 76) := ⟨⟨by decide +kernel, by decide +kernel⟩, List.mem_of_getElem? (i := 1334) (by decide +kernel), List.mem_of_getElem? (i := 1680) (by decide +kernel), List.mem_of_getElem? (i := 1681) (by decide +kernel)⟩
theorem lw_p76 : lw_okq (⟨"BlendCellarModel", "account", "(IIJ)V"⟩, 76) := ⟨⟨by decide +kernel, by decide +kernel⟩, List.mem_of_getElem? (i := 1334) (by decide +kernel), List.mem_of_getElem? (i := 1684) (by decide +kernel), List.mem_of_getElem? (i := 1685) (by decide +kernel)⟩
theorem lw_p77 : lw_okq (⟨"BlendCellarModel", "enter", "(IIIJ)V"⟩, 76) := ⟨⟨by decide +kernel, by decide +kernel⟩, List.mem_of_getElem? (i := 1334) (by decide +kernel), List.mem_of_getElem? (i := 1688) (by decide +kernel), List.mem_of_getElem? (i := 1689) (by decide +kernel)⟩
theorem lw_p78 : lw_okq (⟨"BlendCellarModel", "spare", "(I)J"⟩, 76) := ⟨⟨by decide +kernel, by decide +kernel⟩, List.mem_of_getElem? (i := 1334) (by decide +kernel), List.mem_of_getElem? (i := 1696) (by decide +kernel), List.mem_of_getElem? (i := 1697) (by decide +kernel)⟩
theorem lw_p79 : lw_okq (⟨"BlendCellarModel", "spareOfVessel", "(IZ)J"⟩, 76) := ⟨⟨by decide +kernel, by decide +kernel⟩, List.mem_of_getElem? (i := 1334) (by decide +kernel), List.mem_of_getElem? (i := 1700) (by decide +kernel), List.mem_of_getElem? (i := 1701) (by decide +kernel)⟩
def lw_privs_5 : List (MethodName × Nat) := [(⟨"BlendCellarModel", "readPlace", "(II)I"⟩, 76), (⟨"BlendCellarModel", "isAmount", "(J)Z"⟩, 76), (⟨"BlendCellarModel", "isInCask", "(I)Z"⟩, 76), (⟨"BlendCellarModel", "most", "(I)J"⟩, 76), (⟨"BlendCellarModel", "mostOfVessel", "(I)J"⟩, 76), (⟨"BlendCellarModel", "ran", "(I)V"⟩, 76), (⟨"BlendCellarModel", "inVessel", "(I)J"⟩, 76), (⟨"BlendCellarModel", "mixInto", "(I)Z"⟩, 76), (⟨"BlendCellarModel", "mix", "(IJ)V"⟩, 76), (⟨"BlendCellarModel", "mixDraws", "()V"⟩, 76), (⟨"BlendCellarModel", "shares", "(IJ)V"⟩, 76), (⟨"BlendCellarModel", "become", "(I)V"⟩, 76), (⟨"BlendCellarModel", "account", "(IIJ)V"⟩, 76), (⟨"BlendCellarModel", "enter", "(IIIJ)V"⟩, 76), (⟨"BlendCellarModel", "spare", "(I)J"⟩, 76), (⟨"BlendCellarModel", "spareOfVessel", "(IZ)J"⟩, 76)]
theorem lw_r5 : ∀ q ∈ lw_privs_5, lw_okq q := List.forall_mem_cons.mpr ⟨lw_p64, List.forall_mem_cons.mpr ⟨lw_p65, List.forall_mem_cons.mpr ⟨lw_p66, List.forall_mem_cons.mpr ⟨lw_p67, List.forall_mem_cons.mpr ⟨lw_p68, List.forall_mem_cons.mpr ⟨lw_p69, List.forall_mem_cons.mpr ⟨lw_p70, List.forall_mem_cons.mpr ⟨lw_p71, List.forall_mem_cons.mpr ⟨lw_p72, List.forall_mem_cons.mpr ⟨lw_p73, List.forall_mem_cons.mpr ⟨lw_p74, List.forall_mem_cons.mpr ⟨lw_p75, List.forall_mem_cons.mpr ⟨lw_p76, List.forall_mem_cons.mpr ⟨lw_p77, List.forall_mem_cons.mpr ⟨lw_p78, List.forall_mem_cons.mpr ⟨lw_p79, fun _ h => absurd h List.not_mem_nil⟩⟩⟩⟩⟩⟩⟩⟩⟩⟩⟩⟩⟩⟩⟩⟩
theorem lw_p80 : lw_okq (⟨"BlendCellarModel", "drawFrom", "(IJZ)V"⟩, 76) := ⟨⟨by decide +kernel, by decide +kernel⟩, List.mem_of_getElem? (i := 1334) (by decide +kernel), List.mem_of_getElem? (i := 1704) (by decide +kernel), List.mem_of_getElem? (i := 1705) (by decide +kernel)⟩
theorem lw_p81 : lw_okq (⟨"BlendCellarModel", "addDraw", "(IJ)V"⟩, 76) := ⟨⟨by decide +kernel, by decide +kernel⟩, List.mem_of_getElem? (i := 1334) (by decide +kernel), List.mem_of_getElem? (i := 1708) (by decide +kernel), List.mem_of_getElem? (i := 1709) (by decide +kernel)⟩
theorem lw_p82 : lw_okq (⟨"BlendCellarModel", "takeDraws", "(I)V"⟩, 76) := ⟨⟨by decide +kernel, by decide +kernel⟩, List.mem_of_getElem? (i := 1334) (by decide +kernel), List.mem_of_getElem? (i := 1712) (by decide +kernel), List.mem_of_getElem? (i := 1713) (by decide +kernel)⟩
theorem lw_p83 : lw_okq (⟨"BlendCellarModel", "take", "(IJI)V"⟩, 76) := ⟨⟨by decide +kernel, by decide +kernel⟩, List.mem_of_getElem? (i := 1334) (by decide +kernel), List.mem_of_getElem? (i := 1716) (by decide +kernel), List.mem_of_getElem? (i := 1717) (by decide +kernel)⟩
theorem lw_p84 : lw_okq (⟨"BlendCellarModel", "isPicked", "(I)Z"⟩, 76) := ⟨⟨by decide +kernel, by decide +kernel⟩, List.mem_of_getElem? (i := 1334) (by decide +kernel), List.mem_of_getElem? (i := 1728) (by decide +kernel), List.mem_of_getElem? (i := 1729) (by decide +kernel)⟩
theorem lw_p85 : lw_okq (⟨"BlendCellarModel", "isOneInCask", "()Z"⟩, 76) := ⟨⟨by decide +kernel, by decide +kernel⟩, List.mem_of_getElem? (i := 1334) (by decide +kernel), List.mem_of_getElem? (i := 1740) (by decide +kernel), List.mem_of_getElem? (i := 1741) (by decide +kernel)⟩
theorem lw_p86 : lw_okq (⟨"BlendCellarModel", "tellRate", "(I)V"⟩, 76) := ⟨⟨by decide +kernel, by decide +kernel⟩, List.mem_of_getElem? (i := 1334) (by decide +kernel), List.mem_of_getElem? (i := 1748) (by decide +kernel), List.mem_of_getElem? (i := 1749) (by decide +kernel)⟩
theorem lw_p87 : lw_okq (⟨"BlendCellarModel", "rateOf", "(I)J"⟩, 76) := ⟨⟨by decide +kernel, by decide +kernel⟩, List.mem_of_getElem? (i := 1334) (by decide +kernel), List.mem_of_getElem? (i := 1752) (by decide +kernel), List.mem_of_getElem? (i := 1753) (by decide +kernel)⟩
theorem lw_p88 : lw_okq (⟨"BlendCellarModel", "lookedPart", "(II)I"⟩, 76) := ⟨⟨by decide +kernel, by decide +kernel⟩, List.mem_of_getElem? (i := 1334) (by decide +kernel), List.mem_of_getElem? (i := 1775) (by decide +kernel), List.mem_of_getElem? (i := 1776) (by decide +kernel)⟩
theorem lw_p89 : lw_okq (⟨"BlendCellarModel", "inAll", "(I)J"⟩, 76) := ⟨⟨by decide +kernel, by decide +kernel⟩, List.mem_of_getElem? (i := 1334) (by decide +kernel), List.mem_of_getElem? (i := 1787) (by decide +kernel), List.mem_of_getElem? (i := 1788) (by decide +kernel)⟩
theorem lw_p90 : lw_okq (⟨"BlendCellarModel", "lookedLabel", "(I)I"⟩, 76) := ⟨⟨by decide +kernel, by decide +kernel⟩, List.mem_of_getElem? (i := 1334) (by decide +kernel), List.mem_of_getElem? (i := 1799) (by decide +kernel), List.mem_of_getElem? (i := 1800) (by decide +kernel)⟩
theorem lw_p91 : lw_okq (⟨"BlendCellarModel", "mixVessel", "(I)V"⟩, 76) := ⟨⟨by decide +kernel, by decide +kernel⟩, List.mem_of_getElem? (i := 1334) (by decide +kernel), List.mem_of_getElem? (i := 1807) (by decide +kernel), List.mem_of_getElem? (i := 1808) (by decide +kernel)⟩
theorem lw_p92 : lw_okq (⟨"BlendCellarModel", "sharesOfMix", "([JI)V"⟩, 76) := ⟨⟨by decide +kernel, by decide +kernel⟩, List.mem_of_getElem? (i := 1334) (by decide +kernel), List.mem_of_getElem? (i := 1811) (by decide +kernel), List.mem_of_getElem? (i := 1812) (by decide +kernel)⟩
theorem lw_p93 : lw_okq (⟨"BlendCellarModel", "holdsAll", "(I)I"⟩, 76) := ⟨⟨by decide +kernel, by decide +kernel⟩, List.mem_of_getElem? (i := 1334) (by decide +kernel), List.mem_of_getElem? (i := 1815) (by decide +kernel), List.mem_of_getElem? (i := 1816) (by decide +kernel)⟩
theorem lw_p94 : lw_okq (⟨"BlendCellarModel", "holds", "(I)I"⟩, 76) := ⟨⟨by decide +kernel, by decide +kernel⟩, List.mem_of_getElem? (i := 1334) (by decide +kernel), List.mem_of_getElem? (i := 1819) (by decide +kernel), List.mem_of_getElem? (i := 1820) (by decide +kernel)⟩
theorem lw_p95 : lw_okq (⟨"BlendCellarModel", "dear", "(IJ)J"⟩, 76) := ⟨⟨by decide +kernel, by decide +kernel⟩, List.mem_of_getElem? (i := 1334) (by decide +kernel), List.mem_of_getElem? (i := 1829) (by decide +kernel), List.mem_of_getElem? (i := 1830) (by decide +kernel)⟩
def lw_privs_6 : List (MethodName × Nat) := [(⟨"BlendCellarModel", "drawFrom", "(IJZ)V"⟩, 76), (⟨"BlendCellarModel", "addDraw", "(IJ)V"⟩, 76), (⟨"BlendCellarModel", "takeDraws", "(I)V"⟩, 76), (⟨"BlendCellarModel", "take", "(IJI)V"⟩, 76), (⟨"BlendCellarModel", "isPicked", "(I)Z"⟩, 76), (⟨"BlendCellarModel", "isOneInCask", "()Z"⟩, 76), (⟨"BlendCellarModel", "tellRate", "(I)V"⟩, 76), (⟨"BlendCellarModel", "rateOf", "(I)J"⟩, 76), (⟨"BlendCellarModel", "lookedPart", "(II)I"⟩, 76), (⟨"BlendCellarModel", "inAll", "(I)J"⟩, 76), (⟨"BlendCellarModel", "lookedLabel", "(I)I"⟩, 76), (⟨"BlendCellarModel", "mixVessel", "(I)V"⟩, 76), (⟨"BlendCellarModel", "sharesOfMix", "([JI)V"⟩, 76), (⟨"BlendCellarModel", "holdsAll", "(I)I"⟩, 76), (⟨"BlendCellarModel", "holds", "(I)I"⟩, 76), (⟨"BlendCellarModel", "dear", "(IJ)J"⟩, 76)]
theorem lw_r6 : ∀ q ∈ lw_privs_6, lw_okq q := List.forall_mem_cons.mpr ⟨lw_p80, List.forall_mem_cons.mpr ⟨lw_p81, List.forall_mem_cons.mpr ⟨lw_p82, List.forall_mem_cons.mpr ⟨lw_p83, List.forall_mem_cons.mpr ⟨lw_p84, List.forall_mem_cons.mpr ⟨lw_p85, List.forall_mem_cons.mpr ⟨lw_p86, List.forall_mem_cons.mpr ⟨lw_p87, List.forall_mem_cons.mpr ⟨lw_p88, List.forall_mem_cons.mpr ⟨lw_p89, List.forall_mem_cons.mpr ⟨lw_p90, List.forall_mem_cons.mpr ⟨lw_p91, List.forall_mem_cons.mpr ⟨lw_p92, List.forall_mem_cons.mpr ⟨lw_p93, List.forall_mem_cons.mpr ⟨lw_p94, List.forall_mem_cons.mpr ⟨lw_p95, fun _ h => absurd h List.not_mem_nil⟩⟩⟩⟩⟩⟩⟩⟩⟩⟩⟩⟩⟩⟩⟩⟩
theorem lw_p96 : lw_okq (⟨"BlendCellarModel", "search", "(IIIJ)V"⟩, 76) := ⟨⟨by decide +kernel, by decide +kernel⟩, List.mem_of_getElem? (i := 1334) (by decide +kernel), List.mem_of_getElem? (i := 1835) (by decide +kernel), List.mem_of_getElem? (i := 1836) (by decide +kernel)⟩
theorem lw_p97 : lw_okq (⟨"BlendCellarModel", "takeBack", "()V"⟩, 76) := ⟨⟨by decide +kernel, by decide +kernel⟩, List.mem_of_getElem? (i := 1334) (by decide +kernel), List.mem_of_getElem? (i := 1843) (by decide +kernel), List.mem_of_getElem? (i := 1844) (by decide +kernel)⟩
theorem lw_p98 : lw_okq (⟨"BlendCellarModel", "isBarrel", "(I)Z"⟩, 76) := ⟨⟨by decide +kernel, by decide +kernel⟩, List.mem_of_getElem? (i := 1334) (by decide +kernel), List.mem_of_getElem? (i := 1851) (by decide +kernel), List.mem_of_getElem? (i := 1852) (by decide +kernel)⟩
theorem lw_p99 : lw_okq (⟨"BlendCellarModel", "ofPart", "(II)J"⟩, 76) := ⟨⟨by decide +kernel, by decide +kernel⟩, List.mem_of_getElem? (i := 1334) (by decide +kernel), List.mem_of_getElem? (i := 1871) (by decide +kernel), List.mem_of_getElem? (i := 1872) (by decide +kernel)⟩
def lw_privs_7 : List (MethodName × Nat) := [(⟨"BlendCellarModel", "search", "(IIIJ)V"⟩, 76), (⟨"BlendCellarModel", "takeBack", "()V"⟩, 76), (⟨"BlendCellarModel", "isBarrel", "(I)Z"⟩, 76), (⟨"BlendCellarModel", "ofPart", "(II)J"⟩, 76)]
theorem lw_r7 : ∀ q ∈ lw_privs_7, lw_okq q := List.forall_mem_cons.mpr ⟨lw_p96, List.forall_mem_cons.mpr ⟨lw_p97, List.forall_mem_cons.mpr ⟨lw_p98, List.forall_mem_cons.mpr ⟨lw_p99, fun _ h => absurd h List.not_mem_nil⟩⟩⟩⟩
def lw_privs : List (MethodName × Nat) := lw_privs_1 ++ (lw_privs_2 ++ (lw_privs_3 ++ (lw_privs_4 ++ (lw_privs_5 ++ (lw_privs_6 ++ (lw_privs_7))))))
def lw_tbl : List Cond := k2_sels lw_privs ++ tables_1
theorem lw_privs_ok : ∀ q ∈ lw_privs, lw_okq q := by
  show ∀ q ∈ lw_privs_1 ++ (lw_privs_2 ++ (lw_privs_3 ++ (lw_privs_4 ++ (lw_privs_5 ++ (lw_privs_6 ++ (lw_privs_7)))))), lw_okq q
  exact List.forall_mem_append.mpr ⟨lw_r1, List.forall_mem_append.mpr ⟨lw_r2, List.forall_mem_append.mpr ⟨lw_r3, List.forall_mem_append.mpr ⟨lw_r4, List.forall_mem_append.mpr ⟨lw_r5, List.forall_mem_append.mpr ⟨lw_r6, lw_r7⟩⟩⟩⟩⟩⟩

def RX0 : String := "BlendCellar$Barrel"
def TX0 : u_T := fun k => match k with
  | 0 => ("BlendCellar$Barrel", "number", "I", true)
  | 1 => ("BlendCellar$Barrel", "kind", "I", true)
  | 2 => ("BlendCellar$Barrel", "size", "I", true)
  | 3 => ("BlendCellar$Barrel", "cents", "I", false)
  | 4 => ("BlendCellar$Barrel", "place", "I", false)
  | 5 => ("BlendCellar$Barrel", "wine", "LBlendCellar$Wine;", true)
  | 6 => ("BlendCellar$Barrel", "members", "[LBlendCellar$Barrel;", true)
  | 7 => ("BlendCellar$Barrel", "memberCount", "I", false)
  | 8 => ("BlendCellar$Barrel", "keptCents", "I", false)
  | 9 => ("BlendCellar$Barrel", "keptPlace", "I", false)
  | 10 => ("BlendCellar$Barrel", "keptMemberCount", "I", false)
  | 11 => ("BlendCellar$Barrel", "keptWine", "LBlendCellar$Wine;", true)
  | 12 => ("BlendCellar$Barrel", "timesSeen", "I", false)
  | _ => ("BlendCellar$Barrel", "seenAt", "I", false)
def tyX0 : Nat → FieldType := fun k => match k with
  | 0 => .int
  | 1 => .int
  | 2 => .int
  | 3 => .int
  | 4 => .int
  | 5 => .object "BlendCellar$Wine"
  | 6 => .array (.object "BlendCellar$Barrel")
  | 7 => .int
  | 8 => .int
  | 9 => .int
  | 10 => .int
  | 11 => .object "BlendCellar$Wine"
  | 12 => .int
  | _ => .int
theorem nmX0 : ∀ a, a < 14 → ∀ b, b < 14 → a ≠ b → (TX0 a).2.1 ≠ (TX0 b).2.1 := by decide +kernel
theorem tyX0_ok : ∀ k, k < 14 → parseFieldDescriptor (TX0 k).2.2.1 = some (tyX0 k) := by decide +kernel
abbrev cX0_init : ByteArray := prog_2_method_1_code
def yX0_init : MethodName := ⟨RX0, "<init>", "(IIII)V"⟩
abbrev cX0_onFloor : ByteArray := prog_2_method_2_code
def yX0_onFloor : MethodName := ⟨RX0, "onFloor", "()Z"⟩
abbrev cX0_inCask : ByteArray := prog_2_method_3_code
def yX0_inCask : MethodName := ⟨RX0, "inCask", "()Z"⟩
abbrev cX0_takeIn : ByteArray := prog_2_method_4_code
def yX0_takeIn : MethodName := ⟨RX0, "takeIn", "(LBlendCellar$Barrel;)V"⟩
abbrev cX0_has : ByteArray := prog_2_method_5_code
def yX0_has : MethodName := ⟨RX0, "has", "()J"⟩
abbrev cX0_hasOf : ByteArray := prog_2_method_6_code
def yX0_hasOf : MethodName := ⟨RX0, "hasOf", "(I)J"⟩
abbrev cX0_countInside : ByteArray := prog_2_method_7_code
def yX0_countInside : MethodName := ⟨RX0, "countInside", "()I"⟩
abbrev cX0_takesInAll : ByteArray := prog_2_method_8_code
def yX0_takesInAll : MethodName := ⟨RX0, "takesInAll", "(LBlendCellar$Trace;)J"⟩
abbrev cX0_vesselTakes : ByteArray := prog_2_method_9_code
def yX0_vesselTakes : MethodName := ⟨RX0, "vesselTakes", "(LBlendCellar$Trace;)J"⟩
abbrev cX0_steelTakes : ByteArray := prog_2_method_10_code
def yX0_steelTakes : MethodName := ⟨RX0, "steelTakes", "(LBlendCellar$Trace;)J"⟩
abbrev cX0_maySpare : ByteArray := prog_2_method_11_code
def yX0_maySpare : MethodName := ⟨RX0, "maySpare", "(LBlendCellar$Trace;)J"⟩
abbrev cX0_vesselSpares : ByteArray := prog_2_method_12_code
def yX0_vesselSpares : MethodName := ⟨RX0, "vesselSpares", "(LBlendCellar$Trace;)J"⟩
abbrev cX0_oakSpares : ByteArray := prog_2_method_13_code
def yX0_oakSpares : MethodName := ⟨RX0, "oakSpares", "(LBlendCellar$Trace;)J"⟩
abbrev cX0_breathes : ByteArray := prog_2_method_14_code
def yX0_breathes : MethodName := ⟨RX0, "breathes", "(LBlendCellar$Trace;)J"⟩
abbrev cX0_oakBreathes : ByteArray := prog_2_method_15_code
def yX0_oakBreathes : MethodName := ⟨RX0, "oakBreathes", "(LBlendCellar$Trace;)J"⟩
abbrev cX0_isDear : ByteArray := prog_2_method_16_code
def yX0_isDear : MethodName := ⟨RX0, "isDear", "(JLBlendCellar$Trace;)J"⟩
abbrev cX0_keep : ByteArray := prog_2_method_17_code
def yX0_keep : MethodName := ⟨RX0, "keep", "()V"⟩
abbrev cX0_restore : ByteArray := prog_2_method_18_code
def yX0_restore : MethodName := ⟨RX0, "restore", "()V"⟩
abbrev cX0_loseSight : ByteArray := prog_2_method_19_code
def yX0_loseSight : MethodName := ⟨RX0, "loseSight", "()V"⟩
abbrev cX0_seeAt : ByteArray := prog_2_method_20_code
def yX0_seeAt : MethodName := ⟨RX0, "seeAt", "(I)V"⟩
abbrev cX0_seeMembers : ByteArray := prog_2_method_21_code
def yX0_seeMembers : MethodName := ⟨RX0, "seeMembers", "()V"⟩
abbrev cX0_isStray : ByteArray := prog_2_method_22_code
def yX0_isStray : MethodName := ⟨RX0, "isStray", "()Z"⟩
abbrev cX0_digestOnto : ByteArray := prog_2_method_23_code
def yX0_digestOnto : MethodName := ⟨RX0, "digestOnto", "(J)J"⟩
def RX1 : String := "BlendCellar$Before"
def TX1 : u_T := fun k => match k with
  | 0 => ("BlendCellar$Before", "ready", "Z", false)
  | 1 => ("BlendCellar$Before", "barrelCount", "I", false)
  | 2 => ("BlendCellar$Before", "months", "I", false)
  | 3 => ("BlendCellar$Before", "journalCount", "I", false)
  | 4 => ("BlendCellar$Before", "bottledCount", "I", false)
  | 5 => ("BlendCellar$Before", "row", "I", false)
  | 6 => ("BlendCellar$Before", "place", "I", false)
  | 7 => ("BlendCellar$Before", "lay", "I", false)
  | 8 => ("BlendCellar$Before", "how", "I", false)
  | 9 => ("BlendCellar$Before", "account", "LBlendCellar$Wine;", true)
  | _ => ("BlendCellar$Before", "changed", "Ljava/util/ArrayList;", true)
def tyX1 : Nat → FieldType := fun k => match k with
  | 0 => .boolean
  | 1 => .int
  | 2 => .int
  | 3 => .int
  | 4 => .int
  | 5 => .int
  | 6 => .int
  | 7 => .int
  | 8 => .int
  | 9 => .object "BlendCellar$Wine"
  | _ => .object "java/util/ArrayList"
theorem nmX1 : ∀ a, a < 11 → ∀ b, b < 11 → a ≠ b → (TX1 a).2.1 ≠ (TX1 b).2.1 := by decide +kernel
theorem tyX1_ok : ∀ k, k < 11 → parseFieldDescriptor (TX1 k).2.2.1 = some (tyX1 k) := by decide +kernel
abbrev cX1_init : ByteArray := prog_3_method_1_code
def yX1_init : MethodName := ⟨RX1, "<init>", "()V"⟩
abbrev cX1_begin : ByteArray := prog_3_method_2_code
def yX1_begin : MethodName := ⟨RX1, "begin", "(IIII)V"⟩
abbrev cX1_keepBarrel : ByteArray := prog_3_method_3_code
def yX1_keepBarrel : MethodName := ⟨RX1, "keepBarrel", "(LBlendCellar$Barrel;)V"⟩
abbrev cX1_keepRow : ByteArray := prog_3_method_4_code
def yX1_keepRow : MethodName := ⟨RX1, "keepRow", "(I)V"⟩
abbrev cX1_keepPlace : ByteArray := prog_3_method_5_code
def yX1_keepPlace : MethodName := ⟨RX1, "keepPlace", "(III)V"⟩
abbrev cX1_keepAccount : ByteArray := prog_3_method_6_code
def yX1_keepAccount : MethodName := ⟨RX1, "keepAccount", "(ILBlendCellar$Wine;)V"⟩
abbrev cX1_restoreBarrels : ByteArray := prog_3_method_7_code
def yX1_restoreBarrels : MethodName := ⟨RX1, "restoreBarrels", "()V"⟩
def RX2 : String := "BlendCellar$Drawing"
def TX2 : u_T := fun k => match k with
  | 0 => ("BlendCellar$Drawing", "vessels", "[LBlendCellar$Barrel;", true)
  | 1 => ("BlendCellar$Drawing", "amounts", "[J", true)
  | 2 => ("BlendCellar$Drawing", "going", "[J", true)
  | 3 => ("BlendCellar$Drawing", "count", "I", false)
  | _ => ("BlendCellar$Drawing", "drawn", "LBlendCellar$Wine;", true)
def tyX2 : Nat → FieldType := fun k => match k with
  | 0 => .array (.object "BlendCellar$Barrel")
  | 1 => .array .long
  | 2 => .array .long
  | 3 => .int
  | _ => .object "BlendCellar$Wine"
theorem nmX2 : ∀ a, a < 5 → ∀ b, b < 5 → a ≠ b → (TX2 a).2.1 ≠ (TX2 b).2.1 := by decide +kernel
theorem tyX2_ok : ∀ k, k < 5 → parseFieldDescriptor (TX2 k).2.2.1 = some (tyX2 k) := by decide +kernel
abbrev cX2_init : ByteArray := prog_4_method_1_code
def yX2_init : MethodName := ⟨RX2, "<init>", "()V"⟩
abbrev cX2_clear : ByteArray := prog_4_method_2_code
def yX2_clear : MethodName := ⟨RX2, "clear", "()V"⟩
abbrev cX2_drawFrom : ByteArray := prog_4_method_3_code
def yX2_drawFrom : MethodName := ⟨RX2, "drawFrom", "(LBlendCellar$Barrel;JLBlendCellar$Trace;)V"⟩
abbrev cX2_drawFromVessel : ByteArray := prog_4_method_4_code
def yX2_drawFromVessel : MethodName := ⟨RX2, "drawFromVessel", "(LBlendCellar$Barrel;J)V"⟩
abbrev cX2_carryOut : ByteArray := prog_4_method_5_code
def yX2_carryOut : MethodName := ⟨RX2, "carryOut", "(LBlendCellar$Before;LBlendCellar$Wine;)V"⟩
abbrev cX2_takeOut : ByteArray := prog_4_method_6_code
def yX2_takeOut : MethodName := ⟨RX2, "takeOut", "(LBlendCellar$Wine;JLBlendCellar$Wine;)V"⟩
abbrev cX2_reckonShares : ByteArray := prog_4_method_7_code
def yX2_reckonShares : MethodName := ⟨RX2, "reckonShares", "(LBlendCellar$Wine;J)V"⟩
abbrev cX2_addGoing : ByteArray := prog_4_method_8_code
def yX2_addGoing : MethodName := ⟨RX2, "addGoing", "(LBlendCellar$Wine;LBlendCellar$Wine;)V"⟩
def RX3 : String := "BlendCellar$Label"
def TX3 : u_T := fun k => match k with
  | 0 => ("BlendCellar$Label", "ops", "[I", true)
  | 1 => ("BlendCellar$Label", "dims", "[I", true)
  | 2 => ("BlendCellar$Label", "values", "[I", true)
  | 3 => ("BlendCellar$Label", "hundredths", "[I", true)
  | 4 => ("BlendCellar$Label", "leafCount", "I", false)
  | 5 => ("BlendCellar$Label", "firstLeaves", "[I", true)
  | 6 => ("BlendCellar$Label", "ruleCount", "I", false)
  | _ => ("BlendCellar$Label", "made", "I", false)
def tyX3 : Nat → FieldType := fun k => match k with
  | 0 => .array .int
  | 1 => .array .int
  | 2 => .array .int
  | 3 => .array .int
  | 4 => .int
  | 5 => .array .int
  | 6 => .int
  | _ => .int
theorem nmX3 : ∀ a, a < 8 → ∀ b, b < 8 → a ≠ b → (TX3 a).2.1 ≠ (TX3 b).2.1 := by decide +kernel
theorem tyX3_ok : ∀ k, k < 8 → parseFieldDescriptor (TX3 k).2.2.1 = some (tyX3 k) := by decide +kernel
abbrev cX3_init : ByteArray := prog_5_method_1_code
def yX3_init : MethodName := ⟨RX3, "<init>", "()V"⟩
abbrev cX3_addRule : ByteArray := prog_5_method_2_code
def yX3_addRule : MethodName := ⟨RX3, "addRule", "(IIII)V"⟩
abbrev cX3_uniteLastTwo : ByteArray := prog_5_method_3_code
def yX3_uniteLastTwo : MethodName := ⟨RX3, "uniteLastTwo", "()V"⟩
abbrev cX3_firstBroken : ByteArray := prog_5_method_4_code
def yX3_firstBroken : MethodName := ⟨RX3, "firstBroken", "(LBlendCellar$Tally;)I"⟩
abbrev cX3_answerOf : ByteArray := prog_5_method_5_code
def yX3_answerOf : MethodName := ⟨RX3, "answerOf", "(ILBlendCellar$Tally;)I"⟩
abbrev cX3_answerOfLeaf : ByteArray := prog_5_method_6_code
def yX3_answerOfLeaf : MethodName := ⟨RX3, "answerOfLeaf", "(ILBlendCellar$Tally;)I"⟩
abbrev cX3_isSo : ByteArray := prog_5_method_7_code
def yX3_isSo : MethodName := ⟨RX3, "isSo", "(IJJI)Z"⟩
def RX4 : String := "BlendCellar$Lines"
def TX4 : u_T := fun k => match k with
  | 0 => ("BlendCellar$Lines", "numbers", "[J", false)
  | _ => ("BlendCellar$Lines", "count", "I", false)
def tyX4 : Nat → FieldType := fun k => match k with
  | 0 => .array .long
  | _ => .int
theorem nmX4 : ∀ a, a < 2 → ∀ b, b < 2 → a ≠ b → (TX4 a).2.1 ≠ (TX4 b).2.1 := by decide +kernel
theorem tyX4_ok : ∀ k, k < 2 → parseFieldDescriptor (TX4 k).2.2.1 = some (tyX4 k) := by decide +kernel
abbrev cX4_init : ByteArray := prog_6_method_1_code
def yX4_init : MethodName := ⟨RX4, "<init>", "()V"⟩
abbrev cX4_add : ByteArray := prog_6_method_2_code
def yX4_add : MethodName := ⟨RX4, "add", "(JJJJ)V"⟩
abbrev cX4_read : ByteArray := prog_6_method_3_code
def yX4_read : MethodName := ⟨RX4, "read", "(II)J"⟩
abbrev cX4_cutTo : ByteArray := prog_6_method_4_code
def yX4_cutTo : MethodName := ⟨RX4, "cutTo", "(I)V"⟩
def RX5 : String := "BlendCellar$Picks"
def TX5 : u_T := fun k => match k with
  | 0 => ("BlendCellar$Picks", "barrels", "[LBlendCellar$Barrel;", true)
  | 1 => ("BlendCellar$Picks", "amounts", "[J", true)
  | _ => ("BlendCellar$Picks", "count", "I", false)
def tyX5 : Nat → FieldType := fun k => match k with
  | 0 => .array (.object "BlendCellar$Barrel")
  | 1 => .array .long
  | _ => .int
theorem nmX5 : ∀ a, a < 3 → ∀ b, b < 3 → a ≠ b → (TX5 a).2.1 ≠ (TX5 b).2.1 := by decide +kernel
theorem tyX5_ok : ∀ k, k < 3 → parseFieldDescriptor (TX5 k).2.2.1 = some (tyX5 k) := by decide +kernel
abbrev cX5_init : ByteArray := prog_7_method_1_code
def yX5_init : MethodName := ⟨RX5, "<init>", "()V"⟩
abbrev cX5_clear : ByteArray := prog_7_method_2_code
def yX5_clear : MethodName := ⟨RX5, "clear", "()V"⟩
abbrev cX5_add : ByteArray := prog_7_method_3_code
def yX5_add : MethodName := ⟨RX5, "add", "(LBlendCellar$Barrel;J)V"⟩
abbrev cX5_has : ByteArray := prog_7_method_4_code
def yX5_has : MethodName := ⟨RX5, "has", "(I)Z"⟩
abbrev cX5_anyInCask : ByteArray := prog_7_method_5_code
def yX5_anyInCask : MethodName := ⟨RX5, "anyInCask", "()Z"⟩
abbrev cX5_allSpared : ByteArray := prog_7_method_6_code
def yX5_allSpared : MethodName := ⟨RX5, "allSpared", "(LBlendCellar$Trace;)Z"⟩
abbrev cX5_sum : ByteArray := prog_7_method_7_code
def yX5_sum : MethodName := ⟨RX5, "sum", "()J"⟩
def RX6 : String := "BlendCellar$Planner"
def TX6 : u_T := fun k => match k with
  | 0 => ("BlendCellar$Planner", "tally", "LBlendCellar$Tally;", true)
  | 1 => ("BlendCellar$Planner", "dears", "[J", true)
  | 2 => ("BlendCellar$Planner", "mostSteps", "[I", true)
  | 3 => ("BlendCellar$Planner", "tried", "[I", true)
  | 4 => ("BlendCellar$Planner", "best", "[I", true)
  | 5 => ("BlendCellar$Planner", "wanted", "LBlendCellar$Label;", false)
  | 6 => ("BlendCellar$Planner", "count", "I", false)
  | 7 => ("BlendCellar$Planner", "least", "J", false)
  | 8 => ("BlendCellar$Planner", "settled", "[J", true)
  | _ => ("BlendCellar$Planner", "settledCount", "I", false)
def tyX6 : Nat → FieldType := fun k => match k with
  | 0 => .object "BlendCellar$Tally"
  | 1 => .array .long
  | 2 => .array .int
  | 3 => .array .int
  | 4 => .array .int
  | 5 => .object "BlendCellar$Label"
  | 6 => .int
  | 7 => .long
  | 8 => .array .long
  | _ => .int
theorem nmX6 : ∀ a, a < 10 → ∀ b, b < 10 → a ≠ b → (TX6 a).2.1 ≠ (TX6 b).2.1 := by decide +kernel
theorem tyX6_ok : ∀ k, k < 10 → parseFieldDescriptor (TX6 k).2.2.1 = some (tyX6 k) := by decide +kernel
abbrev cX6_init : ByteArray := prog_8_method_1_code
def yX6_init : MethodName := ⟨RX6, "<init>", "()V"⟩
abbrev cX6_slotOf : ByteArray := prog_8_method_2_code
def yX6_slotOf : MethodName := ⟨RX6, "slotOf", "(II)I"⟩
abbrev cX6_begin : ByteArray := prog_8_method_3_code
def yX6_begin : MethodName := ⟨RX6, "begin", "(LBlendCellar$Label;IJ)V"⟩
abbrev cX6_setDear : ByteArray := prog_8_method_4_code
def yX6_setDear : MethodName := ⟨RX6, "setDear", "(IIJ)V"⟩
abbrev cX6_offer : ByteArray := prog_8_method_5_code
def yX6_offer : MethodName := ⟨RX6, "offer", "(IILBlendCellar$Wine;)V"⟩
abbrev cX6_search : ByteArray := prog_8_method_6_code
def yX6_search : MethodName := ⟨RX6, "search", "(I)J"⟩
abbrev cX6_chooseFrom : ByteArray := prog_8_method_7_code
def yX6_chooseFrom : MethodName := ⟨RX6, "chooseFrom", "(IIJ)V"⟩
abbrev cX6_settle : ByteArray := prog_8_method_8_code
def yX6_settle : MethodName := ⟨RX6, "settle", "(J)V"⟩
abbrev cX6_readSettled : ByteArray := prog_8_method_9_code
def yX6_readSettled : MethodName := ⟨RX6, "readSettled", "(I)J"⟩
def RX7 : String := "BlendCellar$Row"
def TX7 : u_T := fun k => match k with
  | 0 => ("BlendCellar$Row", "kind", "I", true)
  | _ => ("BlendCellar$Row", "places", "[I", true)
def tyX7 : Nat → FieldType := fun k => match k with
  | 0 => .int
  | _ => .array .int
theorem nmX7 : ∀ a, a < 2 → ∀ b, b < 2 → a ≠ b → (TX7 a).2.1 ≠ (TX7 b).2.1 := by decide +kernel
theorem tyX7_ok : ∀ k, k < 2 → parseFieldDescriptor (TX7 k).2.2.1 = some (tyX7 k) := by decide +kernel
abbrev cX7_init : ByteArray := prog_9_method_1_code
def yX7_init : MethodName := ⟨RX7, "<init>", "(II)V"⟩
abbrev cX7_takes : ByteArray := prog_9_method_2_code
def yX7_takes : MethodName := ⟨RX7, "takes", "(I)Z"⟩
def RX8 : String := "BlendCellar$Tally"
def TX8 : u_T := fun k => match k with
  | 0 => ("BlendCellar$Tally", "sums", "[J", true)
  | 1 => ("BlendCellar$Tally", "chosen", "[I", true)
  | 2 => ("BlendCellar$Tally", "chosenCount", "I", false)
  | _ => ("BlendCellar$Tally", "total", "J", false)
def tyX8 : Nat → FieldType := fun k => match k with
  | 0 => .array .long
  | 1 => .array .int
  | 2 => .int
  | _ => .long
theorem nmX8 : ∀ a, a < 4 → ∀ b, b < 4 → a ≠ b → (TX8 a).2.1 ≠ (TX8 b).2.1 := by decide +kernel
theorem tyX8_ok : ∀ k, k < 4 → parseFieldDescriptor (TX8 k).2.2.1 = some (tyX8 k) := by decide +kernel
abbrev cX8_init : ByteArray := prog_10_method_1_code
def yX8_init : MethodName := ⟨RX8, "<init>", "(I)V"⟩
abbrev cX8_begin : ByteArray := prog_10_method_2_code
def yX8_begin : MethodName := ⟨RX8, "begin", "(IJ)V"⟩
abbrev cX8_countAlone : ByteArray := prog_10_method_3_code
def yX8_countAlone : MethodName := ⟨RX8, "countAlone", "(LBlendCellar$Barrel;)V"⟩
abbrev cX8_choose : ByteArray := prog_10_method_4_code
def yX8_choose : MethodName := ⟨RX8, "choose", "(II)V"⟩
abbrev cX8_clearSlot : ByteArray := prog_10_method_5_code
def yX8_clearSlot : MethodName := ⟨RX8, "clearSlot", "(I)V"⟩
abbrev cX8_addToSlot : ByteArray := prog_10_method_6_code
def yX8_addToSlot : MethodName := ⟨RX8, "addToSlot", "(ILBlendCellar$Wine;)V"⟩
abbrev cX8_having : ByteArray := prog_10_method_7_code
def yX8_having : MethodName := ⟨RX8, "having", "(II)J"⟩
def RX9 : String := "BlendCellar$Trace"
def TX9 : u_T := fun k => match k with
  | 0 => ("BlendCellar$Trace", "numbers", "[I", true)
  | _ => ("BlendCellar$Trace", "count", "I", false)
def tyX9 : Nat → FieldType := fun k => match k with
  | 0 => .array .int
  | _ => .int
theorem nmX9 : ∀ a, a < 2 → ∀ b, b < 2 → a ≠ b → (TX9 a).2.1 ≠ (TX9 b).2.1 := by decide +kernel
theorem tyX9_ok : ∀ k, k < 2 → parseFieldDescriptor (TX9 k).2.2.1 = some (tyX9 k) := by decide +kernel
abbrev cX9_init : ByteArray := prog_11_method_1_code
def yX9_init : MethodName := ⟨RX9, "<init>", "(I)V"⟩
abbrev cX9_clear : ByteArray := prog_11_method_2_code
def yX9_clear : MethodName := ⟨RX9, "clear", "()V"⟩
abbrev cX9_ran : ByteArray := prog_11_method_3_code
def yX9_ran : MethodName := ⟨RX9, "ran", "(I)V"⟩
abbrev cX9_read : ByteArray := prog_11_method_4_code
def yX9_read : MethodName := ⟨RX9, "read", "(I)I"⟩
def RX10 : String := "BlendCellar$Wine"
def TX10 : u_T := fun k => match k with
  | 0 => ("BlendCellar$Wine", "parts", "[I", false)
  | 1 => ("BlendCellar$Wine", "amounts", "[J", false)
  | 2 => ("BlendCellar$Wine", "count", "I", false)
  | _ => ("BlendCellar$Wine", "total", "J", false)
def tyX10 : Nat → FieldType := fun k => match k with
  | 0 => .array .int
  | 1 => .array .long
  | 2 => .int
  | _ => .long
theorem nmX10 : ∀ a, a < 4 → ∀ b, b < 4 → a ≠ b → (TX10 a).2.1 ≠ (TX10 b).2.1 := by decide +kernel
theorem tyX10_ok : ∀ k, k < 4 → parseFieldDescriptor (TX10 k).2.2.1 = some (tyX10 k) := by decide +kernel
abbrev cX10_init : ByteArray := prog_12_method_1_code
def yX10_init : MethodName := ⟨RX10, "<init>", "()V"⟩
abbrev cX10_clear : ByteArray := prog_12_method_2_code
def yX10_clear : MethodName := ⟨RX10, "clear", "()V"⟩
abbrev cX10_indexOf : ByteArray := prog_12_method_3_code
def yX10_indexOf : MethodName := ⟨RX10, "indexOf", "(I)I"⟩
abbrev cX10_isAt : ByteArray := prog_12_method_4_code
def yX10_isAt : MethodName := ⟨RX10, "isAt", "(II)Z"⟩
abbrev cX10_amountOf : ByteArray := prog_12_method_5_code
def yX10_amountOf : MethodName := ⟨RX10, "amountOf", "(I)J"⟩
abbrev cX10_add : ByteArray := prog_12_method_6_code
def yX10_add : MethodName := ⟨RX10, "add", "(IJ)V"⟩
abbrev cX10_subtract : ByteArray := prog_12_method_7_code
def yX10_subtract : MethodName := ⟨RX10, "subtract", "(LBlendCellar$Wine;)V"⟩
abbrev cX10_countUneven : ByteArray := prog_12_method_8_code
def yX10_countUneven : MethodName := ⟨RX10, "countUneven", "()I"⟩
abbrev cX10_lessen : ByteArray := prog_12_method_9_code
def yX10_lessen : MethodName := ⟨RX10, "lessen", "([J)V"⟩
abbrev cX10_copyFrom : ByteArray := prog_12_method_10_code
def yX10_copyFrom : MethodName := ⟨RX10, "copyFrom", "(LBlendCellar$Wine;)V"⟩
abbrev cX10_countWith : ByteArray := prog_12_method_11_code
def yX10_countWith : MethodName := ⟨RX10, "countWith", "(LBlendCellar$Wine;)I"⟩
def RX11 : String := "BlendCellar"
def TX11 : u_T := fun k => match k with
  | 0 => ("BlendCellar", "barrels", "Ljava/util/ArrayList;", true)
  | 1 => ("BlendCellar", "rows", "[LBlendCellar$Row;", true)
  | 2 => ("BlendCellar", "labels", "Ljava/util/ArrayList;", true)
  | 3 => ("BlendCellar", "picks", "LBlendCellar$Picks;", true)
  | 4 => ("BlendCellar", "judged", "LBlendCellar$Tally;", true)
  | 5 => ("BlendCellar", "planner", "LBlendCellar$Planner;", true)
  | 6 => ("BlendCellar", "accounts", "[LBlendCellar$Wine;", true)
  | 7 => ("BlendCellar", "balance", "LBlendCellar$Wine;", true)
  | 8 => ("BlendCellar", "journal", "LBlendCellar$Lines;", true)
  | 9 => ("BlendCellar", "bottled", "LBlendCellar$Lines;", true)
  | 10 => ("BlendCellar", "drawing", "LBlendCellar$Drawing;", true)
  | 11 => ("BlendCellar", "before", "LBlendCellar$Before;", true)
  | 12 => ("BlendCellar", "bodies", "LBlendCellar$Trace;", true)
  | 13 => ("BlendCellar", "unheard", "LBlendCellar$Trace;", true)
  | 14 => ("BlendCellar", "months", "I", false)
  | 15 => ("BlendCellar", "numbersGiven", "J", false)
  | 16 => ("BlendCellar", "triesMade", "I", false)
  | 17 => ("BlendCellar", "tapOpen", "Z", false)
  | 18 => ("BlendCellar", "reason", "I", false)
  | _ => ("BlendCellar", "brokenRule", "I", false)
def tyX11 : Nat → FieldType := fun k => match k with
  | 0 => .object "java/util/ArrayList"
  | 1 => .array (.object "BlendCellar$Row")
  | 2 => .object "java/util/ArrayList"
  | 3 => .object "BlendCellar$Picks"
  | 4 => .object "BlendCellar$Tally"
  | 5 => .object "BlendCellar$Planner"
  | 6 => .array (.object "BlendCellar$Wine")
  | 7 => .object "BlendCellar$Wine"
  | 8 => .object "BlendCellar$Lines"
  | 9 => .object "BlendCellar$Lines"
  | 10 => .object "BlendCellar$Drawing"
  | 11 => .object "BlendCellar$Before"
  | 12 => .object "BlendCellar$Trace"
  | 13 => .object "BlendCellar$Trace"
  | 14 => .int
  | 15 => .long
  | 16 => .int
  | 17 => .boolean
  | 18 => .int
  | _ => .int
theorem nmX11 : ∀ a, a < 20 → ∀ b, b < 20 → a ≠ b → (TX11 a).2.1 ≠ (TX11 b).2.1 := by decide +kernel
theorem tyX11_ok : ∀ k, k < 20 → parseFieldDescriptor (TX11 k).2.2.1 = some (tyX11 k) := by decide +kernel
abbrev cX11_init : ByteArray := prog_1_method_1_code
def yX11_init : MethodName := ⟨RX11, "<init>", "()V"⟩
abbrev cX11_row : ByteArray := prog_1_method_2_code
def yX11_row : MethodName := ⟨RX11, "row", "(III)J"⟩
abbrev cX11_buildRow : ByteArray := prog_1_method_3_code
def yX11_buildRow : MethodName := ⟨RX11, "buildRow", "(III)J"⟩
abbrev cX11_barrel : ByteArray := prog_1_method_4_code
def yX11_barrel : MethodName := ⟨RX11, "barrel", "(III)J"⟩
abbrev cX11_makeBarrel : ByteArray := prog_1_method_5_code
def yX11_makeBarrel : MethodName := ⟨RX11, "makeBarrel", "(III)J"⟩
abbrev cX11_join : ByteArray := prog_1_method_6_code
def yX11_join : MethodName := ⟨RX11, "join", "(II)J"⟩
abbrev cX11_joinCask : ByteArray := prog_1_method_7_code
def yX11_joinCask : MethodName := ⟨RX11, "joinCask", "(II)J"⟩
abbrev cX11_leave : ByteArray := prog_1_method_8_code
def yX11_leave : MethodName := ⟨RX11, "leave", "(I)J"⟩
abbrev cX11_leaveCask : ByteArray := prog_1_method_9_code
def yX11_leaveCask : MethodName := ⟨RX11, "leaveCask", "(I)J"⟩
abbrev cX11_lay : ByteArray := prog_1_method_10_code
def yX11_lay : MethodName := ⟨RX11, "lay", "(III)J"⟩
abbrev cX11_layBarrel : ByteArray := prog_1_method_11_code
def yX11_layBarrel : MethodName := ⟨RX11, "layBarrel", "(III)J"⟩
abbrev cX11_lift : ByteArray := prog_1_method_12_code
def yX11_lift : MethodName := ⟨RX11, "lift", "(II)J"⟩
abbrev cX11_liftBarrel : ByteArray := prog_1_method_13_code
def yX11_liftBarrel : MethodName := ⟨RX11, "liftBarrel", "(II)J"⟩
abbrev cX11_worth : ByteArray := prog_1_method_14_code
def yX11_worth : MethodName := ⟨RX11, "worth", "(II)J"⟩
abbrev cX11_tellCents : ByteArray := prog_1_method_15_code
def yX11_tellCents : MethodName := ⟨RX11, "tellCents", "(II)J"⟩
abbrev cX11_fill : ByteArray := prog_1_method_16_code
def yX11_fill : MethodName := ⟨RX11, "fill", "(IIJ)J"⟩
abbrev cX11_fillVessel : ByteArray := prog_1_method_17_code
def yX11_fillVessel : MethodName := ⟨RX11, "fillVessel", "(IIJ)J"⟩
abbrev cX11_rack : ByteArray := prog_1_method_18_code
def yX11_rack : MethodName := ⟨RX11, "rack", "(IIJ)J"⟩
abbrev cX11_rackWine : ByteArray := prog_1_method_19_code
def yX11_rackWine : MethodName := ⟨RX11, "rackWine", "(IIJ)J"⟩
abbrev cX11_topUp : ByteArray := prog_1_method_20_code
def yX11_topUp : MethodName := ⟨RX11, "topUp", "(II)J"⟩
abbrev cX11_topUpVessel : ByteArray := prog_1_method_21_code
def yX11_topUpVessel : MethodName := ⟨RX11, "topUpVessel", "(II)J"⟩
abbrev cX11_pick : ByteArray := prog_1_method_22_code
def yX11_pick : MethodName := ⟨RX11, "pick", "(IJ)J"⟩
abbrev cX11_pickBarrel : ByteArray := prog_1_method_23_code
def yX11_pickBarrel : MethodName := ⟨RX11, "pickBarrel", "(IJ)J"⟩
abbrev cX11_forget : ByteArray := prog_1_method_24_code
def yX11_forget : MethodName := ⟨RX11, "forget", "()J"⟩
abbrev cX11_blend : ByteArray := prog_1_method_25_code
def yX11_blend : MethodName := ⟨RX11, "blend", "(I)J"⟩
abbrev cX11_blendInto : ByteArray := prog_1_method_26_code
def yX11_blendInto : MethodName := ⟨RX11, "blendInto", "(I)J"⟩
abbrev cX11_drawPicked : ByteArray := prog_1_method_27_code
def yX11_drawPicked : MethodName := ⟨RX11, "drawPicked", "()V"⟩
abbrev cX11_breathe : ByteArray := prog_1_method_28_code
def yX11_breathe : MethodName := ⟨RX11, "breathe", "(I)J"⟩
abbrev cX11_letMonthsGoBy : ByteArray := prog_1_method_29_code
def yX11_letMonthsGoBy : MethodName := ⟨RX11, "letMonthsGoBy", "(I)J"⟩
abbrev cX11_breatheAway : ByteArray := prog_1_method_30_code
def yX11_breatheAway : MethodName := ⟨RX11, "breatheAway", "(LBlendCellar$Barrel;JI)J"⟩
abbrev cX11_bottle : ByteArray := prog_1_method_31_code
def yX11_bottle : MethodName := ⟨RX11, "bottle", "(IIJ)J"⟩
abbrev cX11_fillBottles : ByteArray := prog_1_method_32_code
def yX11_fillBottles : MethodName := ⟨RX11, "fillBottles", "(IIJ)J"⟩
abbrev cX11_drain : ByteArray := prog_1_method_33_code
def yX11_drain : MethodName := ⟨RX11, "drain", "(IJI)J"⟩
abbrev cX11_drainVessel : ByteArray := prog_1_method_34_code
def yX11_drainVessel : MethodName := ⟨RX11, "drainVessel", "(IJI)J"⟩
abbrev cX11_wash : ByteArray := prog_1_method_35_code
def yX11_wash : MethodName := ⟨RX11, "wash", "(I)J"⟩
abbrev cX11_washVessel : ByteArray := prog_1_method_36_code
def yX11_washVessel : MethodName := ⟨RX11, "washVessel", "(I)J"⟩
abbrev cX11_partAt : ByteArray := prog_1_method_37_code
def yX11_partAt : MethodName := ⟨RX11, "partAt", "(II)J"⟩
abbrev cX11_amountAt : ByteArray := prog_1_method_38_code
def yX11_amountAt : MethodName := ⟨RX11, "amountAt", "(II)J"⟩
abbrev cX11_room : ByteArray := prog_1_method_39_code
def yX11_room : MethodName := ⟨RX11, "room", "(I)J"⟩
abbrev cX11_roomOf : ByteArray := prog_1_method_40_code
def yX11_roomOf : MethodName := ⟨RX11, "roomOf", "(LBlendCellar$Barrel;)J"⟩
abbrev cX11_label : ByteArray := prog_1_method_41_code
def yX11_label : MethodName := ⟨RX11, "label", "()J"⟩
abbrev cX11_makeLabel : ByteArray := prog_1_method_42_code
def yX11_makeLabel : MethodName := ⟨RX11, "makeLabel", "()J"⟩
abbrev cX11_rule : ByteArray := prog_1_method_43_code
def yX11_rule : MethodName := ⟨RX11, "rule", "(IIIII)J"⟩
abbrev cX11_makeRule : ByteArray := prog_1_method_44_code
def yX11_makeRule : MethodName := ⟨RX11, "makeRule", "(IIIII)J"⟩
abbrev cX11_judge : ByteArray := prog_1_method_45_code
def yX11_judge : MethodName := ⟨RX11, "judge", "(II)J"⟩
abbrev cX11_judgeBarrel : ByteArray := prog_1_method_46_code
def yX11_judgeBarrel : MethodName := ⟨RX11, "judgeBarrel", "(II)J"⟩
abbrev cX11_plan : ByteArray := prog_1_method_47_code
def yX11_plan : MethodName := ⟨RX11, "plan", "(IJI)J"⟩
abbrev cX11_planBlend : ByteArray := prog_1_method_48_code
def yX11_planBlend : MethodName := ⟨RX11, "planBlend", "(IJI)J"⟩
abbrev cX11_checkSteps : ByteArray := prog_1_method_49_code
def yX11_checkSteps : MethodName := ⟨RX11, "checkSteps", "(JI)I"⟩
abbrev cX11_checkPicksForPlan : ByteArray := prog_1_method_50_code
def yX11_checkPicksForPlan : MethodName := ⟨RX11, "checkPicksForPlan", "()I"⟩
abbrev cX11_askForPlan : ByteArray := prog_1_method_51_code
def yX11_askForPlan : MethodName := ⟨RX11, "askForPlan", "(IJI)V"⟩
abbrev cX11_undo : ByteArray := prog_1_method_52_code
def yX11_undo : MethodName := ⟨RX11, "undo", "()J"⟩
abbrev cX11_takeBack : ByteArray := prog_1_method_53_code
def yX11_takeBack : MethodName := ⟨RX11, "takeBack", "()J"⟩
abbrev cX11_restorePlace : ByteArray := prog_1_method_54_code
def yX11_restorePlace : MethodName := ⟨RX11, "restorePlace", "(II)V"⟩
abbrev cX11_kindOf : ByteArray := prog_1_method_55_code
def yX11_kindOf : MethodName := ⟨RX11, "kindOf", "(I)I"⟩
abbrev cX11_where : ByteArray := prog_1_method_56_code
def yX11_where : MethodName := ⟨RX11, "where", "(I)I"⟩
abbrev cX11_at : ByteArray := prog_1_method_57_code
def yX11_at : MethodName := ⟨RX11, "at", "(II)I"⟩
abbrev cX11_amount : ByteArray := prog_1_method_58_code
def yX11_amount : MethodName := ⟨RX11, "amount", "(I)J"⟩
abbrev cX11_part : ByteArray := prog_1_method_59_code
def yX11_part : MethodName := ⟨RX11, "part", "(II)J"⟩
abbrev cX11_parts : ByteArray := prog_1_method_60_code
def yX11_parts : MethodName := ⟨RX11, "parts", "(I)I"⟩
abbrev cX11_account : ByteArray := prog_1_method_61_code
def yX11_account : MethodName := ⟨RX11, "account", "(II)J"⟩
abbrev cX11_odd : ByteArray := prog_1_method_62_code
def yX11_odd : MethodName := ⟨RX11, "odd", "()I"⟩
abbrev cX11_strays : ByteArray := prog_1_method_63_code
def yX11_strays : MethodName := ⟨RX11, "strays", "()I"⟩
abbrev cX11_seeRow : ByteArray := prog_1_method_64_code
def yX11_seeRow : MethodName := ⟨RX11, "seeRow", "(I)V"⟩
abbrev cX11_month : ByteArray := prog_1_method_65_code
def yX11_month : MethodName := ⟨RX11, "month", "()I"⟩
abbrev cX11_bottlings : ByteArray := prog_1_method_66_code
def yX11_bottlings : MethodName := ⟨RX11, "bottlings", "()I"⟩
abbrev cX11_bottling : ByteArray := prog_1_method_67_code
def yX11_bottling : MethodName := ⟨RX11, "bottling", "(II)J"⟩
abbrev cX11_entries : ByteArray := prog_1_method_68_code
def yX11_entries : MethodName := ⟨RX11, "entries", "()I"⟩
abbrev cX11_entry : ByteArray := prog_1_method_69_code
def yX11_entry : MethodName := ⟨RX11, "entry", "(II)J"⟩
abbrev cX11_tries : ByteArray := prog_1_method_70_code
def yX11_tries : MethodName := ⟨RX11, "tries", "()I"⟩
abbrev cX11_closed : ByteArray := prog_1_method_71_code
def yX11_closed : MethodName := ⟨RX11, "closed", "()I"⟩
abbrev cX11_why : ByteArray := prog_1_method_72_code
def yX11_why : MethodName := ⟨RX11, "why", "()I"⟩
abbrev cX11_which : ByteArray := prog_1_method_73_code
def yX11_which : MethodName := ⟨RX11, "which", "()I"⟩
abbrev cX11_trace : ByteArray := prog_1_method_74_code
def yX11_trace : MethodName := ⟨RX11, "trace", "(I)I"⟩
abbrev cX11_picked : ByteArray := prog_1_method_75_code
def yX11_picked : MethodName := ⟨RX11, "picked", "()I"⟩
abbrev cX11_planned : ByteArray := prog_1_method_76_code
def yX11_planned : MethodName := ⟨RX11, "planned", "(I)J"⟩
abbrev cX11_digest : ByteArray := prog_1_method_77_code
def yX11_digest : MethodName := ⟨RX11, "digest", "()J"⟩
abbrev cX11_openTap : ByteArray := prog_1_method_78_code
def yX11_openTap : MethodName := ⟨RX11, "openTap", "()V"⟩
abbrev cX11_closeTap : ByteArray := prog_1_method_79_code
def yX11_closeTap : MethodName := ⟨RX11, "closeTap", "(J)J"⟩
abbrev cX11_remember : ByteArray := prog_1_method_80_code
def yX11_remember : MethodName := ⟨RX11, "remember", "()V"⟩
abbrev cX11_firstOf : ByteArray := prog_1_method_81_code
def yX11_firstOf : MethodName := ⟨RX11, "firstOf", "(II)I"⟩
abbrev cX11_lookUp : ByteArray := prog_1_method_82_code
def yX11_lookUp : MethodName := ⟨RX11, "lookUp", "(I)I"⟩
abbrev cX11_lookUpVessel : ByteArray := prog_1_method_83_code
def yX11_lookUpVessel : MethodName := ⟨RX11, "lookUpVessel", "(I)I"⟩
abbrev cX11_lookUpCask : ByteArray := prog_1_method_84_code
def yX11_lookUpCask : MethodName := ⟨RX11, "lookUpCask", "(I)I"⟩
abbrev cX11_lookUpFreeVessel : ByteArray := prog_1_method_85_code
def yX11_lookUpFreeVessel : MethodName := ⟨RX11, "lookUpFreeVessel", "(I)I"⟩
abbrev cX11_lookUpPart : ByteArray := prog_1_method_86_code
def yX11_lookUpPart : MethodName := ⟨RX11, "lookUpPart", "(II)I"⟩
abbrev cX11_lookUpLabel : ByteArray := prog_1_method_87_code
def yX11_lookUpLabel : MethodName := ⟨RX11, "lookUpLabel", "(I)I"⟩
abbrev cX11_checkPair : ByteArray := prog_1_method_88_code
def yX11_checkPair : MethodName := ⟨RX11, "checkPair", "(II)I"⟩
abbrev cX11_readPlace : ByteArray := prog_1_method_89_code
def yX11_readPlace : MethodName := ⟨RX11, "readPlace", "(II)I"⟩
abbrev cX11_find : ByteArray := prog_1_method_90_code
def yX11_find : MethodName := ⟨RX11, "find", "(I)LBlendCellar$Barrel;"⟩
abbrev cX11_placeCode : ByteArray := prog_1_method_91_code
def yX11_placeCode : MethodName := ⟨RX11, "placeCode", "(II)I"⟩
abbrev cX11_isMl : ByteArray := prog_1_method_92_code
def yX11_isMl : MethodName := ⟨RX11, "isMl", "(J)Z"⟩
abbrev cX11_isCents : ByteArray := prog_1_method_93_code
def yX11_isCents : MethodName := ⟨RX11, "isCents", "(I)Z"⟩
abbrev cX11_isRuleOver : ByteArray := prog_1_method_94_code
def yX11_isRuleOver : MethodName := ⟨RX11, "isRuleOver", "(III)Z"⟩
abbrev cX11_hasTooManyPartsFor : ByteArray := prog_1_method_95_code
def yX11_hasTooManyPartsFor : MethodName := ⟨RX11, "hasTooManyPartsFor", "(LBlendCellar$Barrel;)Z"⟩
abbrev cX11_pourInto : ByteArray := prog_1_method_96_code
def yX11_pourInto : MethodName := ⟨RX11, "pourInto", "(LBlendCellar$Barrel;)V"⟩
abbrev cX11_drawOff : ByteArray := prog_1_method_97_code
def yX11_drawOff : MethodName := ⟨RX11, "drawOff", "(LBlendCellar$Barrel;JI)V"⟩
def RX12 : String := "BlendCellarModel"
def TX12 : u_T := fun k => match k with
  | 0 => ("BlendCellarModel", "given", "I", false)
  | 1 => ("BlendCellarModel", "barrels", "I", false)
  | 2 => ("BlendCellarModel", "kind", "[I", true)
  | 3 => ("BlendCellarModel", "size", "[I", true)
  | 4 => ("BlendCellarModel", "cents", "[I", true)
  | 5 => ("BlendCellarModel", "place", "[I", true)
  | 6 => ("BlendCellarModel", "members", "[I", true)
  | 7 => ("BlendCellarModel", "member", "[I", true)
  | 8 => ("BlendCellarModel", "many", "[I", true)
  | 9 => ("BlendCellarModel", "part", "[I", true)
  | 10 => ("BlendCellarModel", "ml", "[J", true)
  | 11 => ("BlendCellarModel", "rowKind", "[I", true)
  | 12 => ("BlendCellarModel", "rowSize", "[I", true)
  | 13 => ("BlendCellarModel", "lies", "[I", true)
  | 14 => ("BlendCellarModel", "known", "I", false)
  | 15 => ("BlendCellarModel", "indexOf", "[I", true)
  | 16 => ("BlendCellarModel", "codeOf", "[I", true)
  | 17 => ("BlendCellarModel", "told", "[J", true)
  | 18 => ("BlendCellarModel", "months", "I", false)
  | 19 => ("BlendCellarModel", "entries", "I", false)
  | 20 => ("BlendCellarModel", "journal", "[J", false)
  | 21 => ("BlendCellarModel", "bottlings", "I", false)
  | 22 => ("BlendCellarModel", "bottled", "[J", false)
  | 23 => ("BlendCellarModel", "labels", "I", false)
  | 24 => ("BlendCellarModel", "madeRules", "[I", true)
  | 25 => ("BlendCellarModel", "rules", "[I", true)
  | 26 => ("BlendCellarModel", "rule", "[I", true)
  | 27 => ("BlendCellarModel", "ruleOp", "[I", true)
  | 28 => ("BlendCellarModel", "ruleDim", "[I", true)
  | 29 => ("BlendCellarModel", "ruleValue", "[I", true)
  | 30 => ("BlendCellarModel", "ruleHundredth", "[I", true)
  | 31 => ("BlendCellarModel", "ruleFirst", "[I", true)
  | 32 => ("BlendCellarModel", "ruleSecond", "[I", true)
  | 33 => ("BlendCellarModel", "picks", "I", false)
  | 34 => ("BlendCellarModel", "pickBarrel", "[I", true)
  | 35 => ("BlendCellarModel", "pickMl", "[J", true)
  | 36 => ("BlendCellarModel", "plans", "I", false)
  | 37 => ("BlendCellarModel", "planMl", "[J", true)
  | 38 => ("BlendCellarModel", "tries", "I", false)
  | 39 => ("BlendCellarModel", "why", "I", false)
  | 40 => ("BlendCellarModel", "which", "I", false)
  | 41 => ("BlendCellarModel", "traces", "I", false)
  | 42 => ("BlendCellarModel", "trace", "[I", true)
  | 43 => ("BlendCellarModel", "hasBefore", "Z", false)
  | 44 => ("BlendCellarModel", "barrelsBefore", "I", false)
  | 45 => ("BlendCellarModel", "knownBefore", "I", false)
  | 46 => ("BlendCellarModel", "monthsBefore", "I", false)
  | 47 => ("BlendCellarModel", "entriesBefore", "I", false)
  | 48 => ("BlendCellarModel", "bottlingsBefore", "I", false)
  | 49 => ("BlendCellarModel", "centsBefore", "[I", true)
  | 50 => ("BlendCellarModel", "placeBefore", "[I", true)
  | 51 => ("BlendCellarModel", "membersBefore", "[I", true)
  | 52 => ("BlendCellarModel", "memberBefore", "[I", true)
  | 53 => ("BlendCellarModel", "manyBefore", "[I", true)
  | 54 => ("BlendCellarModel", "partBefore", "[I", true)
  | 55 => ("BlendCellarModel", "mlBefore", "[J", true)
  | 56 => ("BlendCellarModel", "rowKindBefore", "[I", true)
  | 57 => ("BlendCellarModel", "rowSizeBefore", "[I", true)
  | 58 => ("BlendCellarModel", "liesBefore", "[I", true)
  | 59 => ("BlendCellarModel", "toldBefore", "[J", true)
  | 60 => ("BlendCellarModel", "draws", "I", false)
  | 61 => ("BlendCellarModel", "drawVessel", "[I", true)
  | 62 => ("BlendCellarModel", "drawMl", "[J", true)
  | 63 => ("BlendCellarModel", "goes", "[J", true)
  | 64 => ("BlendCellarModel", "mixed", "I", false)
  | 65 => ("BlendCellarModel", "mixPart", "[I", true)
  | 66 => ("BlendCellarModel", "mixMl", "[J", true)
  | 67 => ("BlendCellarModel", "all", "J", false)
  | 68 => ("BlendCellarModel", "share", "[J", true)
  | 69 => ("BlendCellarModel", "firstNot", "I", false)
  | 70 => ("BlendCellarModel", "stepShare", "[J", true)
  | 71 => ("BlendCellarModel", "stepWorth", "[J", true)
  | 72 => ("BlendCellarModel", "stepMost", "[I", true)
  | 73 => ("BlendCellarModel", "steps", "[I", true)
  | 74 => ("BlendCellarModel", "bestSteps", "[I", true)
  | _ => ("BlendCellarModel", "bestWorth", "J", false)
def tyX12 : Nat → FieldType := fun k => match k with
  | 0 => .int
  | 1 => .int
  | 2 => .array .int
  | 3 => .array .int
  | 4 => .array .int
  | 5 => .array .int
  | 6 => .array .int
  | 7 => .array .int
  | 8 => .array .int
  | 9 => .array .int
  | 10 => .array .long
  | 11 => .array .int
  | 12 => .array .int
  | 13 => .array .int
  | 14 => .int
  | 15 => .array .int
  | 16 => .array .int
  | 17 => .array .long
  | 18 => .int
  | 19 => .int
  | 20 => .array .long
  | 21 => .int
  | 22 => .array .long
  | 23 => .int
  | 24 => .array .int
  | 25 => .array .int
  | 26 => .array .int
  | 27 => .array .int
  | 28 => .array .int
  | 29 => .array .int
  | 30 => .array .int
  | 31 => .array .int
  | 32 => .array .int
  | 33 => .int
  | 34 => .array .int
  | 35 => .array .long
  | 36 => .int
  | 37 => .array .long
  | 38 => .int
  | 39 => .int
  | 40 => .int
  | 41 => .int
  | 42 => .array .int
  | 43 => .boolean
  | 44 => .int
  | 45 => .int
  | 46 => .int
  | 47 => .int
  | 48 => .int
  | 49 => .array .int
  | 50 => .array .int
  | 51 => .array .int
  | 52 => .array .int
  | 53 => .array .int
  | 54 => .array .int
  | 55 => .array .long
  | 56 => .array .int
  | 57 => .array .int
  | 58 => .array .int
  | 59 => .array .long
  | 60 => .int
  | 61 => .array .int
  | 62 => .array .long
  | 63 => .array .long
  | 64 => .int
  | 65 => .array .int
  | 66 => .array .long
  | 67 => .long
  | 68 => .array .long
  | 69 => .int
  | 70 => .array .long
  | 71 => .array .long
  | 72 => .array .int
  | 73 => .array .int
  | 74 => .array .int
  | _ => .long
theorem nmX12 : ∀ a, a < 76 → ∀ b, b < 76 → a ≠ b → (TX12 a).2.1 ≠ (TX12 b).2.1 := by decide +kernel
theorem tyX12_ok : ∀ k, k < 76 → parseFieldDescriptor (TX12 k).2.2.1 = some (tyX12 k) := by decide +kernel
abbrev cX12_init : ByteArray := prog_14_method_1_code
def yX12_init : MethodName := ⟨RX12, "<init>", "()V"⟩
abbrev cX12_begin : ByteArray := prog_14_method_2_code
def yX12_begin : MethodName := ⟨RX12, "begin", "()V"⟩
abbrev cX12_no : ByteArray := prog_14_method_3_code
def yX12_no : MethodName := ⟨RX12, "no", "(I)J"⟩
abbrev cX12_ran : ByteArray := prog_14_method_4_code
def yX12_ran : MethodName := ⟨RX12, "ran", "(I)V"⟩
abbrev cX12_looked : ByteArray := prog_14_method_5_code
def yX12_looked : MethodName := ⟨RX12, "looked", "(I)I"⟩
abbrev cX12_lookedVessel : ByteArray := prog_14_method_6_code
def yX12_lookedVessel : MethodName := ⟨RX12, "lookedVessel", "(I)I"⟩
abbrev cX12_lookedCask : ByteArray := prog_14_method_7_code
def yX12_lookedCask : MethodName := ⟨RX12, "lookedCask", "(I)I"⟩
abbrev cX12_lookedLabel : ByteArray := prog_14_method_8_code
def yX12_lookedLabel : MethodName := ⟨RX12, "lookedLabel", "(I)I"⟩
abbrev cX12_readPlace : ByteArray := prog_14_method_9_code
def yX12_readPlace : MethodName := ⟨RX12, "readPlace", "(II)I"⟩
abbrev cX12_isAmount : ByteArray := prog_14_method_10_code
def yX12_isAmount : MethodName := ⟨RX12, "isAmount", "(J)Z"⟩
abbrev cX12_isInCask : ByteArray := prog_14_method_11_code
def yX12_isInCask : MethodName := ⟨RX12, "isInCask", "(I)Z"⟩
abbrev cX12_takes : ByteArray := prog_14_method_12_code
def yX12_takes : MethodName := ⟨RX12, "takes", "(II)Z"⟩
abbrev cX12_enter : ByteArray := prog_14_method_13_code
def yX12_enter : MethodName := ⟨RX12, "enter", "(IIIJ)V"⟩
abbrev cX12_keep : ByteArray := prog_14_method_14_code
def yX12_keep : MethodName := ⟨RX12, "keep", "()V"⟩
abbrev cX12_takeBack : ByteArray := prog_14_method_15_code
def yX12_takeBack : MethodName := ⟨RX12, "takeBack", "()V"⟩
abbrev cX12_inVessel : ByteArray := prog_14_method_16_code
def yX12_inVessel : MethodName := ⟨RX12, "inVessel", "(I)J"⟩
abbrev cX12_inAll : ByteArray := prog_14_method_17_code
def yX12_inAll : MethodName := ⟨RX12, "inAll", "(I)J"⟩
abbrev cX12_atLeast0 : ByteArray := prog_14_method_18_code
def yX12_atLeast0 : MethodName := ⟨RX12, "atLeast0", "(J)J"⟩
abbrev cX12_mostOfVessel : ByteArray := prog_14_method_19_code
def yX12_mostOfVessel : MethodName := ⟨RX12, "mostOfVessel", "(I)J"⟩
abbrev cX12_most : ByteArray := prog_14_method_20_code
def yX12_most : MethodName := ⟨RX12, "most", "(I)J"⟩
abbrev cX12_spareOfVessel : ByteArray := prog_14_method_21_code
def yX12_spareOfVessel : MethodName := ⟨RX12, "spareOfVessel", "(IZ)J"⟩
abbrev cX12_spare : ByteArray := prog_14_method_22_code
def yX12_spare : MethodName := ⟨RX12, "spare", "(I)J"⟩
abbrev cX12_tellRate : ByteArray := prog_14_method_23_code
def yX12_tellRate : MethodName := ⟨RX12, "tellRate", "(I)V"⟩
abbrev cX12_rateOf : ByteArray := prog_14_method_24_code
def yX12_rateOf : MethodName := ⟨RX12, "rateOf", "(I)J"⟩
abbrev cX12_dear : ByteArray := prog_14_method_25_code
def yX12_dear : MethodName := ⟨RX12, "dear", "(IJ)J"⟩
abbrev cX12_shares : ByteArray := prog_14_method_26_code
def yX12_shares : MethodName := ⟨RX12, "shares", "(IJ)V"⟩
abbrev cX12_addDraw : ByteArray := prog_14_method_27_code
def yX12_addDraw : MethodName := ⟨RX12, "addDraw", "(IJ)V"⟩
abbrev cX12_drawFrom : ByteArray := prog_14_method_28_code
def yX12_drawFrom : MethodName := ⟨RX12, "drawFrom", "(IJZ)V"⟩
abbrev cX12_mix : ByteArray := prog_14_method_29_code
def yX12_mix : MethodName := ⟨RX12, "mix", "(IJ)V"⟩
abbrev cX12_mixDraws : ByteArray := prog_14_method_30_code
def yX12_mixDraws : MethodName := ⟨RX12, "mixDraws", "()V"⟩
abbrev cX12_mixInto : ByteArray := prog_14_method_31_code
def yX12_mixInto : MethodName := ⟨RX12, "mixInto", "(I)Z"⟩
abbrev cX12_take : ByteArray := prog_14_method_32_code
def yX12_take : MethodName := ⟨RX12, "take", "(IJI)V"⟩
abbrev cX12_takeDraws : ByteArray := prog_14_method_33_code
def yX12_takeDraws : MethodName := ⟨RX12, "takeDraws", "(I)V"⟩
abbrev cX12_become : ByteArray := prog_14_method_34_code
def yX12_become : MethodName := ⟨RX12, "become", "(I)V"⟩
abbrev cX12_account : ByteArray := prog_14_method_35_code
def yX12_account : MethodName := ⟨RX12, "account", "(IIJ)V"⟩
abbrev cX12_row : ByteArray := prog_14_method_36_code
def yX12_row : MethodName := ⟨RX12, "row", "(III)J"⟩
abbrev cX12_barrel : ByteArray := prog_14_method_37_code
def yX12_barrel : MethodName := ⟨RX12, "barrel", "(III)J"⟩
abbrev cX12_join : ByteArray := prog_14_method_38_code
def yX12_join : MethodName := ⟨RX12, "join", "(II)J"⟩
abbrev cX12_leave : ByteArray := prog_14_method_39_code
def yX12_leave : MethodName := ⟨RX12, "leave", "(I)J"⟩
abbrev cX12_lay : ByteArray := prog_14_method_40_code
def yX12_lay : MethodName := ⟨RX12, "lay", "(III)J"⟩
abbrev cX12_lift : ByteArray := prog_14_method_41_code
def yX12_lift : MethodName := ⟨RX12, "lift", "(II)J"⟩
abbrev cX12_worth : ByteArray := prog_14_method_42_code
def yX12_worth : MethodName := ⟨RX12, "worth", "(II)J"⟩
abbrev cX12_fill : ByteArray := prog_14_method_43_code
def yX12_fill : MethodName := ⟨RX12, "fill", "(IIJ)J"⟩
abbrev cX12_rack : ByteArray := prog_14_method_44_code
def yX12_rack : MethodName := ⟨RX12, "rack", "(IIJ)J"⟩
abbrev cX12_topUp : ByteArray := prog_14_method_45_code
def yX12_topUp : MethodName := ⟨RX12, "topUp", "(II)J"⟩
abbrev cX12_isPicked : ByteArray := prog_14_method_46_code
def yX12_isPicked : MethodName := ⟨RX12, "isPicked", "(I)Z"⟩
abbrev cX12_pick : ByteArray := prog_14_method_47_code
def yX12_pick : MethodName := ⟨RX12, "pick", "(IJ)J"⟩
abbrev cX12_forget : ByteArray := prog_14_method_48_code
def yX12_forget : MethodName := ⟨RX12, "forget", "()J"⟩
abbrev cX12_isOneInCask : ByteArray := prog_14_method_49_code
def yX12_isOneInCask : MethodName := ⟨RX12, "isOneInCask", "()Z"⟩
abbrev cX12_blend : ByteArray := prog_14_method_50_code
def yX12_blend : MethodName := ⟨RX12, "blend", "(I)J"⟩
abbrev cX12_breathe : ByteArray := prog_14_method_51_code
def yX12_breathe : MethodName := ⟨RX12, "breathe", "(I)J"⟩
abbrev cX12_bottle : ByteArray := prog_14_method_52_code
def yX12_bottle : MethodName := ⟨RX12, "bottle", "(IIJ)J"⟩
abbrev cX12_drain : ByteArray := prog_14_method_53_code
def yX12_drain : MethodName := ⟨RX12, "drain", "(IJI)J"⟩
abbrev cX12_wash : ByteArray := prog_14_method_54_code
def yX12_wash : MethodName := ⟨RX12, "wash", "(I)J"⟩
abbrev cX12_lookedPart : ByteArray := prog_14_method_55_code
def yX12_lookedPart : MethodName := ⟨RX12, "lookedPart", "(II)I"⟩
abbrev cX12_partAt : ByteArray := prog_14_method_56_code
def yX12_partAt : MethodName := ⟨RX12, "partAt", "(II)J"⟩
abbrev cX12_amountAt : ByteArray := prog_14_method_57_code
def yX12_amountAt : MethodName := ⟨RX12, "amountAt", "(II)J"⟩
abbrev cX12_room : ByteArray := prog_14_method_58_code
def yX12_room : MethodName := ⟨RX12, "room", "(I)J"⟩
abbrev cX12_label : ByteArray := prog_14_method_59_code
def yX12_label : MethodName := ⟨RX12, "label", "()J"⟩
abbrev cX12_rule : ByteArray := prog_14_method_60_code
def yX12_rule : MethodName := ⟨RX12, "rule", "(IIIII)J"⟩
abbrev cX12_holds : ByteArray := prog_14_method_61_code
def yX12_holds : MethodName := ⟨RX12, "holds", "(I)I"⟩
abbrev cX12_holdsAll : ByteArray := prog_14_method_62_code
def yX12_holdsAll : MethodName := ⟨RX12, "holdsAll", "(I)I"⟩
abbrev cX12_sharesOfMix : ByteArray := prog_14_method_63_code
def yX12_sharesOfMix : MethodName := ⟨RX12, "sharesOfMix", "([JI)V"⟩
abbrev cX12_mixVessel : ByteArray := prog_14_method_64_code
def yX12_mixVessel : MethodName := ⟨RX12, "mixVessel", "(I)V"⟩
abbrev cX12_judge : ByteArray := prog_14_method_65_code
def yX12_judge : MethodName := ⟨RX12, "judge", "(II)J"⟩
abbrev cX12_search : ByteArray := prog_14_method_66_code
def yX12_search : MethodName := ⟨RX12, "search", "(IIIJ)V"⟩
abbrev cX12_plan : ByteArray := prog_14_method_67_code
def yX12_plan : MethodName := ⟨RX12, "plan", "(IJI)J"⟩
abbrev cX12_undo : ByteArray := prog_14_method_68_code
def yX12_undo : MethodName := ⟨RX12, "undo", "()J"⟩
abbrev cX12_isBarrel : ByteArray := prog_14_method_69_code
def yX12_isBarrel : MethodName := ⟨RX12, "isBarrel", "(I)Z"⟩
abbrev cX12_kindOf : ByteArray := prog_14_method_70_code
def yX12_kindOf : MethodName := ⟨RX12, "kindOf", "(I)I"⟩
abbrev cX12_where : ByteArray := prog_14_method_71_code
def yX12_where : MethodName := ⟨RX12, "where", "(I)I"⟩
abbrev cX12_at : ByteArray := prog_14_method_72_code
def yX12_at : MethodName := ⟨RX12, "at", "(II)I"⟩
abbrev cX12_amount : ByteArray := prog_14_method_73_code
def yX12_amount : MethodName := ⟨RX12, "amount", "(I)J"⟩
abbrev cX12_ofPart : ByteArray := prog_14_method_74_code
def yX12_ofPart : MethodName := ⟨RX12, "ofPart", "(II)J"⟩
abbrev cX12_part : ByteArray := prog_14_method_75_code
def yX12_part : MethodName := ⟨RX12, "part", "(II)J"⟩
abbrev cX12_parts : ByteArray := prog_14_method_76_code
def yX12_parts : MethodName := ⟨RX12, "parts", "(I)I"⟩
abbrev cX12_account_ : ByteArray := prog_14_method_77_code
def yX12_account_ : MethodName := ⟨RX12, "account", "(II)J"⟩
abbrev cX12_odd : ByteArray := prog_14_method_78_code
def yX12_odd : MethodName := ⟨RX12, "odd", "()I"⟩
abbrev cX12_strays : ByteArray := prog_14_method_79_code
def yX12_strays : MethodName := ⟨RX12, "strays", "()I"⟩
abbrev cX12_month : ByteArray := prog_14_method_80_code
def yX12_month : MethodName := ⟨RX12, "month", "()I"⟩
abbrev cX12_bottlings : ByteArray := prog_14_method_81_code
def yX12_bottlings : MethodName := ⟨RX12, "bottlings", "()I"⟩
abbrev cX12_bottling : ByteArray := prog_14_method_82_code
def yX12_bottling : MethodName := ⟨RX12, "bottling", "(II)J"⟩
abbrev cX12_entries : ByteArray := prog_14_method_83_code
def yX12_entries : MethodName := ⟨RX12, "entries", "()I"⟩
abbrev cX12_entry : ByteArray := prog_14_method_84_code
def yX12_entry : MethodName := ⟨RX12, "entry", "(II)J"⟩
abbrev cX12_tries : ByteArray := prog_14_method_85_code
def yX12_tries : MethodName := ⟨RX12, "tries", "()I"⟩
abbrev cX12_closed : ByteArray := prog_14_method_86_code
def yX12_closed : MethodName := ⟨RX12, "closed", "()I"⟩
abbrev cX12_why : ByteArray := prog_14_method_87_code
def yX12_why : MethodName := ⟨RX12, "why", "()I"⟩
abbrev cX12_which : ByteArray := prog_14_method_88_code
def yX12_which : MethodName := ⟨RX12, "which", "()I"⟩
abbrev cX12_trace : ByteArray := prog_14_method_89_code
def yX12_trace : MethodName := ⟨RX12, "trace", "(I)I"⟩
abbrev cX12_picked : ByteArray := prog_14_method_90_code
def yX12_picked : MethodName := ⟨RX12, "picked", "()I"⟩
abbrev cX12_planned : ByteArray := prog_14_method_91_code
def yX12_planned : MethodName := ⟨RX12, "planned", "(I)J"⟩
abbrev cX12_digest : ByteArray := prog_14_method_92_code
def yX12_digest : MethodName := ⟨RX12, "digest", "()J"⟩
def RJx145de : String := "java/io/Serializable"
def TJx145de : u_T := fun k => match k with
  | _ => ("", "", "", false)
def tyJx145de : Nat → FieldType := fun k => match k with
  | _ => .int
theorem nmJx145de : ∀ a, a < 0 → ∀ b, b < 0 → a ≠ b → (TJx145de a).2.1 ≠ (TJx145de b).2.1 := by decide +kernel
theorem tyJx145de_ok : ∀ k, k < 0 → parseFieldDescriptor (TJx145de k).2.2.1 = some (tyJx145de k) := by decide +kernel
def RJx8e188 : String := "java/lang/Cloneable"
def TJx8e188 : u_T := fun k => match k with
  | _ => ("", "", "", false)
def tyJx8e188 : Nat → FieldType := fun k => match k with
  | _ => .int
theorem nmJx8e188 : ∀ a, a < 0 → ∀ b, b < 0 → a ≠ b → (TJx8e188 a).2.1 ≠ (TJx8e188 b).2.1 := by decide +kernel
theorem tyJx8e188_ok : ∀ k, k < 0 → parseFieldDescriptor (TJx8e188 k).2.2.1 = some (tyJx8e188 k) := by decide +kernel
def RJxab1ab : String := "java/lang/Iterable"
def TJxab1ab : u_T := fun k => match k with
  | _ => ("", "", "", false)
def tyJxab1ab : Nat → FieldType := fun k => match k with
  | _ => .int
theorem nmJxab1ab : ∀ a, a < 0 → ∀ b, b < 0 → a ≠ b → (TJxab1ab a).2.1 ≠ (TJxab1ab b).2.1 := by decide +kernel
theorem tyJxab1ab_ok : ∀ k, k < 0 → parseFieldDescriptor (TJxab1ab k).2.2.1 = some (tyJxab1ab k) := by decide +kernel
def RJ9 : String := "java/lang/Math"
def TJ9 : u_T := fun k => match k with
  | _ => ("", "", "", false)
def tyJ9 : Nat → FieldType := fun k => match k with
  | _ => .int
theorem nmJ9 : ∀ a, a < 0 → ∀ b, b < 0 → a ≠ b → (TJ9 a).2.1 ≠ (TJ9 b).2.1 := by decide +kernel
theorem tyJ9_ok : ∀ k, k < 0 → parseFieldDescriptor (TJ9 k).2.2.1 = some (tyJ9 k) := by decide +kernel
abbrev cJ9_max_7cf53 : ByteArray := prog_18_method_65_code
def yJ9_max_7cf53 : MethodName := ⟨RJ9, "max", "(II)I"⟩
abbrev cJ9_max_f86c9 : ByteArray := prog_18_method_66_code
def yJ9_max_f86c9 : MethodName := ⟨RJ9, "max", "(JJ)J"⟩
abbrev cJ9_min_7cf53 : ByteArray := prog_18_method_69_code
def yJ9_min_7cf53 : MethodName := ⟨RJ9, "min", "(II)I"⟩
abbrev cJ9_min_f86c9 : ByteArray := prog_18_method_70_code
def yJ9_min_f86c9 : MethodName := ⟨RJ9, "min", "(JJ)J"⟩
def RJ10 : String := "java/lang/System"
def TJ10 : u_T := fun k => match k with
  | _ => ("", "", "", false)
def tyJ10 : Nat → FieldType := fun k => match k with
  | _ => .int
theorem nmJ10 : ∀ a, a < 0 → ∀ b, b < 0 → a ≠ b → (TJ10 a).2.1 ≠ (TJ10 b).2.1 := by decide +kernel
theorem tyJ10_ok : ∀ k, k < 0 → parseFieldDescriptor (TJ10 k).2.2.1 = some (tyJ10 k) := by decide +kernel
def RJxa1e45 : String := "java/util/AbstractCollection"
def TJxa1e45 : u_T := fun k => match k with
  | _ => ("", "", "", false)
def tyJxa1e45 : Nat → FieldType := fun k => match k with
  | _ => .int
theorem nmJxa1e45 : ∀ a, a < 0 → ∀ b, b < 0 → a ≠ b → (TJxa1e45 a).2.1 ≠ (TJxa1e45 b).2.1 := by decide +kernel
theorem tyJxa1e45_ok : ∀ k, k < 0 → parseFieldDescriptor (TJxa1e45 k).2.2.1 = some (tyJxa1e45 k) := by decide +kernel
abbrev cJxa1e45_init_da8c8 : ByteArray := prog_20_method_1_code
def yJxa1e45_init_da8c8 : MethodName := ⟨RJxa1e45, "<init>", "()V"⟩
def RJxc12de : String := "java/util/AbstractList"
def TJxc12de : u_T := fun k => match k with
  | _ => ("", "", "", false)
def tyJxc12de : Nat → FieldType := fun k => match k with
  | _ => .int
theorem nmJxc12de : ∀ a, a < 0 → ∀ b, b < 0 → a ≠ b → (TJxc12de a).2.1 ≠ (TJxc12de b).2.1 := by decide +kernel
theorem tyJxc12de_ok : ∀ k, k < 0 → parseFieldDescriptor (TJxc12de k).2.2.1 = some (tyJxc12de k) := by decide +kernel
abbrev cJxc12de_init_da8c8 : ByteArray := prog_21_method_1_code
def yJxc12de_init_da8c8 : MethodName := ⟨RJxc12de, "<init>", "()V"⟩
def RJx4a65c : String := "java/util/ArrayList"
def TJx4a65c : u_T := fun k => match k with
  | 0 => ("java/util/AbstractList", "modCount", "I", false)
  | 1 => ("java/util/ArrayList", "elementData", "[Ljava/lang/Object;", false)
  | _ => ("java/util/ArrayList", "size", "I", false)
def tyJx4a65c : Nat → FieldType := fun k => match k with
  | 0 => .int
  | 1 => .array (.object "java/lang/Object")
  | _ => .int
theorem nmJx4a65c : ∀ a, a < 3 → ∀ b, b < 3 → a ≠ b → (TJx4a65c a).2.1 ≠ (TJx4a65c b).2.1 := by decide +kernel
theorem tyJx4a65c_ok : ∀ k, k < 3 → parseFieldDescriptor (TJx4a65c k).2.2.1 = some (tyJx4a65c k) := by decide +kernel
abbrev cJx4a65c_init_da8c8 : ByteArray := prog_22_method_2_code
def yJx4a65c_init_da8c8 : MethodName := ⟨RJx4a65c, "<init>", "()V"⟩
abbrev cJx4a65c_grow_92f84 : ByteArray := prog_22_method_6_code
def yJx4a65c_grow_92f84 : MethodName := ⟨RJx4a65c, "grow", "(I)[Ljava/lang/Object;"⟩
abbrev cJx4a65c_grow_d5877 : ByteArray := prog_22_method_7_code
def yJx4a65c_grow_d5877 : MethodName := ⟨RJx4a65c, "grow", "()[Ljava/lang/Object;"⟩
abbrev cJx4a65c_size_8abf5 : ByteArray := prog_22_method_8_code
def yJx4a65c_size_8abf5 : MethodName := ⟨RJx4a65c, "size", "()I"⟩
abbrev cJx4a65c_elementData_915e3 : ByteArray := prog_22_method_18_code
def yJx4a65c_elementData_915e3 : MethodName := ⟨RJx4a65c, "elementData", "(I)Ljava/lang/Object;"⟩
abbrev cJx4a65c_get_915e3 : ByteArray := prog_22_method_20_code
def yJx4a65c_get_915e3 : MethodName := ⟨RJx4a65c, "get", "(I)Ljava/lang/Object;"⟩
abbrev cJx4a65c_add_72be8 : ByteArray := prog_22_method_24_code
def yJx4a65c_add_72be8 : MethodName := ⟨RJx4a65c, "add", "(Ljava/lang/Object;[Ljava/lang/Object;I)V"⟩
abbrev cJx4a65c_add_9ea2d : ByteArray := prog_22_method_25_code
def yJx4a65c_add_9ea2d : MethodName := ⟨RJx4a65c, "add", "(Ljava/lang/Object;)Z"⟩
abbrev cJx4a65c_remove_915e3 : ByteArray := prog_22_method_29_code
def yJx4a65c_remove_915e3 : MethodName := ⟨RJx4a65c, "remove", "(I)Ljava/lang/Object;"⟩
abbrev cJx4a65c_fastRemove_b59b0 : ByteArray := prog_22_method_39_code
def yJx4a65c_fastRemove_b59b0 : MethodName := ⟨RJx4a65c, "fastRemove", "([Ljava/lang/Object;I)V"⟩
abbrev cJx4a65c_clear_da8c8 : ByteArray := prog_22_method_40_code
def yJx4a65c_clear_da8c8 : MethodName := ⟨RJx4a65c, "clear", "()V"⟩
def RJ7 : String := "java/util/Arrays"
def TJ7 : u_T := fun k => match k with
  | _ => ("", "", "", false)
def tyJ7 : Nat → FieldType := fun k => match k with
  | _ => .int
theorem nmJ7 : ∀ a, a < 0 → ∀ b, b < 0 → a ≠ b → (TJ7 a).2.1 ≠ (TJ7 b).2.1 := by decide +kernel
theorem tyJ7_ok : ∀ k, k < 0 → parseFieldDescriptor (TJ7 k).2.2.1 = some (tyJ7 k) := by decide +kernel
abbrev cJ7_fill_53178 : ByteArray := prog_23_method_103_code
def yJ7_fill_53178 : MethodName := ⟨RJ7, "fill", "([II)V"⟩
abbrev cJ7_copyOf_1904c : ByteArray := prog_23_method_119_code
def yJ7_copyOf_1904c : MethodName := ⟨RJ7, "copyOf", "([Ljava/lang/Object;I)[Ljava/lang/Object;"⟩
abbrev cJ7_copyOf_6403c : ByteArray := prog_23_method_120_code
def yJ7_copyOf_6403c : MethodName := ⟨RJ7, "copyOf", "([Ljava/lang/Object;ILjava/lang/Class;)[Ljava/lang/Object;"⟩
abbrev cJ7_copyOf_59c91 : ByteArray := prog_23_method_123_code
def yJ7_copyOf_59c91 : MethodName := ⟨RJ7, "copyOf", "([II)[I"⟩
abbrev cJ7_copyOf_c38d5 : ByteArray := prog_23_method_124_code
def yJ7_copyOf_c38d5 : MethodName := ⟨RJ7, "copyOf", "([JI)[J"⟩
def RJx5ef63 : String := "java/util/Collection"
def TJx5ef63 : u_T := fun k => match k with
  | _ => ("", "", "", false)
def tyJx5ef63 : Nat → FieldType := fun k => match k with
  | _ => .int
theorem nmJx5ef63 : ∀ a, a < 0 → ∀ b, b < 0 → a ≠ b → (TJx5ef63 a).2.1 ≠ (TJx5ef63 b).2.1 := by decide +kernel
theorem tyJx5ef63_ok : ∀ k, k < 0 → parseFieldDescriptor (TJx5ef63 k).2.2.1 = some (tyJx5ef63 k) := by decide +kernel
def RJxbd725 : String := "java/util/List"
def TJxbd725 : u_T := fun k => match k with
  | _ => ("", "", "", false)
def tyJxbd725 : Nat → FieldType := fun k => match k with
  | _ => .int
theorem nmJxbd725 : ∀ a, a < 0 → ∀ b, b < 0 → a ≠ b → (TJxbd725 a).2.1 ≠ (TJxbd725 b).2.1 := by decide +kernel
theorem tyJxbd725_ok : ∀ k, k < 0 → parseFieldDescriptor (TJxbd725 k).2.2.1 = some (tyJxbd725 k) := by decide +kernel
def RJ15 : String := "java/util/Objects"
def TJ15 : u_T := fun k => match k with
  | _ => ("", "", "", false)
def tyJ15 : Nat → FieldType := fun k => match k with
  | _ => .int
theorem nmJ15 : ∀ a, a < 0 → ∀ b, b < 0 → a ≠ b → (TJ15 a).2.1 ≠ (TJ15 b).2.1 := by decide +kernel
theorem tyJ15_ok : ∀ k, k < 0 → parseFieldDescriptor (TJ15 k).2.2.1 = some (tyJ15 k) := by decide +kernel
abbrev cJ15_checkIndex_7cf53 : ByteArray := prog_26_method_17_code
def yJ15_checkIndex_7cf53 : MethodName := ⟨RJ15, "checkIndex", "(II)I"⟩
def RJxf0a74 : String := "java/util/RandomAccess"
def TJxf0a74 : u_T := fun k => match k with
  | _ => ("", "", "", false)
def tyJxf0a74 : Nat → FieldType := fun k => match k with
  | _ => .int
theorem nmJxf0a74 : ∀ a, a < 0 → ∀ b, b < 0 → a ≠ b → (TJxf0a74 a).2.1 ≠ (TJxf0a74 b).2.1 := by decide +kernel
theorem tyJxf0a74_ok : ∀ k, k < 0 → parseFieldDescriptor (TJxf0a74 k).2.2.1 = some (tyJxf0a74 k) := by decide +kernel
def RJxa66e6 : String := "java/util/SequencedCollection"
def TJxa66e6 : u_T := fun k => match k with
  | _ => ("", "", "", false)
def tyJxa66e6 : Nat → FieldType := fun k => match k with
  | _ => .int
theorem nmJxa66e6 : ∀ a, a < 0 → ∀ b, b < 0 → a ≠ b → (TJxa66e6 a).2.1 ≠ (TJxa66e6 b).2.1 := by decide +kernel
theorem tyJxa66e6_ok : ∀ k, k < 0 → parseFieldDescriptor (TJxa66e6 k).2.2.1 = some (tyJxa66e6 k) := by decide +kernel
def RJ8 : String := "jdk/internal/util/ArraysSupport"
def TJ8 : u_T := fun k => match k with
  | _ => ("", "", "", false)
def tyJ8 : Nat → FieldType := fun k => match k with
  | _ => .int
theorem nmJ8 : ∀ a, a < 0 → ∀ b, b < 0 → a ≠ b → (TJ8 a).2.1 ≠ (TJ8 b).2.1 := by decide +kernel
theorem tyJ8_ok : ∀ k, k < 0 → parseFieldDescriptor (TJ8 k).2.2.1 = some (tyJ8 k) := by decide +kernel
abbrev cJ8_newLength_cabcc : ByteArray := prog_29_method_27_code
def yJ8_newLength_cabcc : MethodName := ⟨RJ8, "newLength", "(III)I"⟩
abbrev cJ8_hugeLength_7cf53 : ByteArray := prog_29_method_28_code
def yJ8_hugeLength_7cf53 : MethodName := ⟨RJ8, "hugeLength", "(II)I"⟩
def RJ3 : String := "jdk/internal/util/Preconditions"
def TJ3 : u_T := fun k => match k with
  | _ => ("", "", "", false)
def tyJ3 : Nat → FieldType := fun k => match k with
  | _ => .int
theorem nmJ3 : ∀ a, a < 0 → ∀ b, b < 0 → a ≠ b → (TJ3 a).2.1 ≠ (TJ3 b).2.1 := by decide +kernel
theorem tyJ3_ok : ∀ k, k < 0 → parseFieldDescriptor (TJ3 k).2.2.1 = some (tyJ3 k) := by decide +kernel
abbrev cJ3_checkIndex_8e157 : ByteArray := prog_30_method_11_code
def yJ3_checkIndex_8e157 : MethodName := ⟨RJ3, "checkIndex", "(IILjava/util/function/BiFunction;)I"⟩
def RL : String := "BlendCellarLaw"
abbrev cL_law : ByteArray := code
def yL_law : MethodName := ⟨RL, "law", "([I)Z"⟩
abbrev vwCl : List vw_C := [(RJx4a65c, TJx4a65c, 3), (RX0, TX0, 14), (RX1, TX1, 11), (RX2, TX2, 5), (RX3, TX3, 8), (RX4, TX4, 2), (RX5, TX5, 3), (RX6, TX6, 10), (RX7, TX7, 2), (RX8, TX8, 4), (RX9, TX9, 2), (RX10, TX10, 4), (RX11, TX11, 20), (RX12, TX12, 76)]
