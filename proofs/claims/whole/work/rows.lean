section
-- ===== PART A: goes FIRST, ahead of the names: the tables' words, and 'selects' of the private methods out of them =====
/-- a private method of a class that the tables say can be made, by its rows of tables_1 -/
def lw_okq (q : MethodName × Nat) : Prop := (q.1.cls ≠ "java/lang/invoke/MethodHandle" ∧ q.1.cls ≠ "java/lang/invoke/VarHandle") ∧ Cond.instantiable q.1.cls q.2 ∈ tables_1 ∧ Cond.privateMethod q.1 ∈ tables_1 ∧ Cond.instanceMethod q.1 ∈ tables_1
theorem lw_p0 : lw_okq (⟨"FlyWheels$Tape", "nextToken", "()V"⟩, 8) := ⟨⟨by decide +kernel, by decide +kernel⟩, List.mem_of_getElem? (i := 85) (by decide +kernel), List.mem_of_getElem? (i := 217) (by decide +kernel), List.mem_of_getElem? (i := 218) (by decide +kernel)⟩
theorem lw_p1 : lw_okq (⟨"FlyWheels$Tape", "takeName", "()V"⟩, 8) := ⟨⟨by decide +kernel, by decide +kernel⟩, List.mem_of_getElem? (i := 85) (by decide +kernel), List.mem_of_getElem? (i := 224) (by decide +kernel), List.mem_of_getElem? (i := 225) (by decide +kernel)⟩
theorem lw_p2 : lw_okq (⟨"FlyWheels$Tape", "takeNumber", "()V"⟩, 8) := ⟨⟨by decide +kernel, by decide +kernel⟩, List.mem_of_getElem? (i := 85) (by decide +kernel), List.mem_of_getElem? (i := 231) (by decide +kernel), List.mem_of_getElem? (i := 232) (by decide +kernel)⟩
theorem lw_p3 : lw_okq (⟨"FlyWheels$Tape", "takeLine", "(LFlyWheels$Rig;)V"⟩, 8) := ⟨⟨by decide +kernel, by decide +kernel⟩, List.mem_of_getElem? (i := 85) (by decide +kernel), List.mem_of_getElem? (i := 235) (by decide +kernel), List.mem_of_getElem? (i := 236) (by decide +kernel)⟩
theorem lw_p4 : lw_okq (⟨"FlyWheels$Tape", "lineOfName", "()I"⟩, 8) := ⟨⟨by decide +kernel, by decide +kernel⟩, List.mem_of_getElem? (i := 85) (by decide +kernel), List.mem_of_getElem? (i := 239) (by decide +kernel), List.mem_of_getElem? (i := 240) (by decide +kernel)⟩
theorem lw_p5 : lw_okq (⟨"FlyWheels$Tape", "tokenIs", "(Ljava/lang/String;)Z"⟩, 8) := ⟨⟨by decide +kernel, by decide +kernel⟩, List.mem_of_getElem? (i := 85) (by decide +kernel), List.mem_of_getElem? (i := 254) (by decide +kernel), List.mem_of_getElem? (i := 255) (by decide +kernel)⟩
theorem lw_p6 : lw_okq (⟨"FlyWheels$Tape", "takeWheelLine", "(LFlyWheels$Rig;I)V"⟩, 8) := ⟨⟨by decide +kernel, by decide +kernel⟩, List.mem_of_getElem? (i := 85) (by decide +kernel), List.mem_of_getElem? (i := 306) (by decide +kernel), List.mem_of_getElem? (i := 307) (by decide +kernel)⟩
theorem lw_p7 : lw_okq (⟨"FlyWheels$Tape", "numberWithin", "(II)I"⟩, 8) := ⟨⟨by decide +kernel, by decide +kernel⟩, List.mem_of_getElem? (i := 85) (by decide +kernel), List.mem_of_getElem? (i := 310) (by decide +kernel), List.mem_of_getElem? (i := 311) (by decide +kernel)⟩
theorem lw_p8 : lw_okq (⟨"FlyWheels$Tape", "takeStop", "()V"⟩, 8) := ⟨⟨by decide +kernel, by decide +kernel⟩, List.mem_of_getElem? (i := 85) (by decide +kernel), List.mem_of_getElem? (i := 315) (by decide +kernel), List.mem_of_getElem? (i := 316) (by decide +kernel)⟩
theorem lw_p9 : lw_okq (⟨"FlyWheels$Tape", "takeShaftLine", "(LFlyWheels$Rig;)V"⟩, 8) := ⟨⟨by decide +kernel, by decide +kernel⟩, List.mem_of_getElem? (i := 85) (by decide +kernel), List.mem_of_getElem? (i := 323) (by decide +kernel), List.mem_of_getElem? (i := 324) (by decide +kernel)⟩
theorem lw_p10 : lw_okq (⟨"FlyWheels$Tape", "takeActLine", "(LFlyWheels$Rig;I)V"⟩, 8) := ⟨⟨by decide +kernel, by decide +kernel⟩, List.mem_of_getElem? (i := 85) (by decide +kernel), List.mem_of_getElem? (i := 327) (by decide +kernel), List.mem_of_getElem? (i := 328) (by decide +kernel)⟩
theorem lw_p11 : lw_okq (⟨"FlyWheels", "addAct", "(I)I"⟩, 14) := ⟨⟨by decide +kernel, by decide +kernel⟩, List.mem_of_getElem? (i := 13) (by decide +kernel), List.mem_of_getElem? (i := 421) (by decide +kernel), List.mem_of_getElem? (i := 422) (by decide +kernel)⟩
theorem lw_p12 : lw_okq (⟨"FlyWheels$Rig", "takeLoad", "(I)V"⟩, 13) := ⟨⟨by decide +kernel, by decide +kernel⟩, List.mem_of_getElem? (i := 21) (by decide +kernel), List.mem_of_getElem? (i := 438) (by decide +kernel), List.mem_of_getElem? (i := 439) (by decide +kernel)⟩
theorem lw_p13 : lw_okq (⟨"FlyWheels$Rig", "joinWheel", "(I)V"⟩, 13) := ⟨⟨by decide +kernel, by decide +kernel⟩, List.mem_of_getElem? (i := 21) (by decide +kernel), List.mem_of_getElem? (i := 443) (by decide +kernel), List.mem_of_getElem? (i := 444) (by decide +kernel)⟩
theorem lw_p14 : lw_okq (⟨"FlyWheels", "doneAsItIs", "(I)I"⟩, 14) := ⟨⟨by decide +kernel, by decide +kernel⟩, List.mem_of_getElem? (i := 13) (by decide +kernel), List.mem_of_getElem? (i := 521) (by decide +kernel), List.mem_of_getElem? (i := 522) (by decide +kernel)⟩
theorem lw_p15 : lw_okq (⟨"FlyWheels", "doneSwapped", "(III)I"⟩, 14) := ⟨⟨by decide +kernel, by decide +kernel⟩, List.mem_of_getElem? (i := 13) (by decide +kernel), List.mem_of_getElem? (i := 525) (by decide +kernel), List.mem_of_getElem? (i := 526) (by decide +kernel)⟩
def lw_privs_1 : List (MethodName × Nat) := [(⟨"FlyWheels$Tape", "nextToken", "()V"⟩, 8), (⟨"FlyWheels$Tape", "takeName", "()V"⟩, 8), (⟨"FlyWheels$Tape", "takeNumber", "()V"⟩, 8), (⟨"FlyWheels$Tape", "takeLine", "(LFlyWheels$Rig;)V"⟩, 8), (⟨"FlyWheels$Tape", "lineOfName", "()I"⟩, 8), (⟨"FlyWheels$Tape", "tokenIs", "(Ljava/lang/String;)Z"⟩, 8), (⟨"FlyWheels$Tape", "takeWheelLine", "(LFlyWheels$Rig;I)V"⟩, 8), (⟨"FlyWheels$Tape", "numberWithin", "(II)I"⟩, 8), (⟨"FlyWheels$Tape", "takeStop", "()V"⟩, 8), (⟨"FlyWheels$Tape", "takeShaftLine", "(LFlyWheels$Rig;)V"⟩, 8), (⟨"FlyWheels$Tape", "takeActLine", "(LFlyWheels$Rig;I)V"⟩, 8), (⟨"FlyWheels", "addAct", "(I)I"⟩, 14), (⟨"FlyWheels$Rig", "takeLoad", "(I)V"⟩, 13), (⟨"FlyWheels$Rig", "joinWheel", "(I)V"⟩, 13), (⟨"FlyWheels", "doneAsItIs", "(I)I"⟩, 14), (⟨"FlyWheels", "doneSwapped", "(III)I"⟩, 14)]
theorem lw_r1 : ∀ q ∈ lw_privs_1, lw_okq q := List.forall_mem_cons.mpr ⟨lw_p0, List.forall_mem_cons.mpr ⟨lw_p1, List.forall_mem_cons.mpr ⟨lw_p2, List.forall_mem_cons.mpr ⟨lw_p3, List.forall_mem_cons.mpr ⟨lw_p4, List.forall_mem_cons.mpr ⟨lw_p5, List.forall_mem_cons.mpr ⟨lw_p6, List.forall_mem_cons.mpr ⟨lw_p7, List.forall_mem_cons.mpr ⟨lw_p8, List.forall_mem_cons.mpr ⟨lw_p9, List.forall_mem_cons.mpr ⟨lw_p10, List.forall_mem_cons.mpr ⟨lw_p11, List.forall_mem_cons.mpr ⟨lw_p12, List.forall_mem_cons.mpr ⟨lw_p13, List.forall_mem_cons.mpr ⟨lw_p14, List.forall_mem_cons.mpr ⟨lw_p15, fun _ h => absurd h List.not_mem_nil⟩⟩⟩⟩⟩⟩⟩⟩⟩⟩⟩⟩⟩⟩⟩⟩
theorem lw_p16 : lw_okq (⟨"FlyWheels", "runFailing", "(II)V"⟩, 14) := ⟨⟨by decide +kernel, by decide +kernel⟩, List.mem_of_getElem? (i := 13) (by decide +kernel), List.mem_of_getElem? (i := 549) (by decide +kernel), List.mem_of_getElem? (i := 550) (by decide +kernel)⟩
theorem lw_p17 : lw_okq (⟨"FlyWheels", "trialGoesAsSeen", "()Z"⟩, 14) := ⟨⟨by decide +kernel, by decide +kernel⟩, List.mem_of_getElem? (i := 13) (by decide +kernel), List.mem_of_getElem? (i := 581) (by decide +kernel), List.mem_of_getElem? (i := 582) (by decide +kernel)⟩
theorem lw_p18 : lw_okq (⟨"FlyWheels", "trialIsAsSeen", "(I)Z"⟩, 14) := ⟨⟨by decide +kernel, by decide +kernel⟩, List.mem_of_getElem? (i := 13) (by decide +kernel), List.mem_of_getElem? (i := 585) (by decide +kernel), List.mem_of_getElem? (i := 586) (by decide +kernel)⟩
theorem lw_p19 : lw_okq (⟨"FlyWheels", "fittingLosses", "(I)I"⟩, 14) := ⟨⟨by decide +kernel, by decide +kernel⟩, List.mem_of_getElem? (i := 13) (by decide +kernel), List.mem_of_getElem? (i := 593) (by decide +kernel), List.mem_of_getElem? (i := 594) (by decide +kernel)⟩
theorem lw_p20 : lw_okq (⟨"FlyWheels", "lookAhead", "(II)V"⟩, 14) := ⟨⟨by decide +kernel, by decide +kernel⟩, List.mem_of_getElem? (i := 13) (by decide +kernel), List.mem_of_getElem? (i := 601) (by decide +kernel), List.mem_of_getElem? (i := 602) (by decide +kernel)⟩
theorem lw_p21 : lw_okq (⟨"FlyWheels", "leftAtWorst", "(II)I"⟩, 14) := ⟨⟨by decide +kernel, by decide +kernel⟩, List.mem_of_getElem? (i := 13) (by decide +kernel), List.mem_of_getElem? (i := 611) (by decide +kernel), List.mem_of_getElem? (i := 612) (by decide +kernel)⟩
theorem lw_p22 : lw_okq (⟨"FlyWheels", "lossesLookingLike", "(III)I"⟩, 14) := ⟨⟨by decide +kernel, by decide +kernel⟩, List.mem_of_getElem? (i := 13) (by decide +kernel), List.mem_of_getElem? (i := 615) (by decide +kernel), List.mem_of_getElem? (i := 616) (by decide +kernel)⟩
theorem lw_p23 : lw_okq (⟨"FlyWheelsModel", "readsOn", "()V"⟩, 26) := ⟨⟨by decide +kernel, by decide +kernel⟩, List.mem_of_getElem? (i := 665) (by decide +kernel), List.mem_of_getElem? (i := 766) (by decide +kernel), List.mem_of_getElem? (i := 767) (by decide +kernel)⟩
theorem lw_p24 : lw_okq (⟨"FlyWheelsModel", "byteAt", "(I)I"⟩, 26) := ⟨⟨by decide +kernel, by decide +kernel⟩, List.mem_of_getElem? (i := 665) (by decide +kernel), List.mem_of_getElem? (i := 770) (by decide +kernel), List.mem_of_getElem? (i := 771) (by decide +kernel)⟩
theorem lw_p25 : lw_okq (⟨"FlyWheelsModel", "fails", "(I)V"⟩, 26) := ⟨⟨by decide +kernel, by decide +kernel⟩, List.mem_of_getElem? (i := 665) (by decide +kernel), List.mem_of_getElem? (i := 778) (by decide +kernel), List.mem_of_getElem? (i := 779) (by decide +kernel)⟩
theorem lw_p26 : lw_okq (⟨"FlyWheelsModel", "readLine", "()V"⟩, 26) := ⟨⟨by decide +kernel, by decide +kernel⟩, List.mem_of_getElem? (i := 665) (by decide +kernel), List.mem_of_getElem? (i := 782) (by decide +kernel), List.mem_of_getElem? (i := 783) (by decide +kernel)⟩
theorem lw_p27 : lw_okq (⟨"FlyWheelsModel", "nameHere", "()I"⟩, 26) := ⟨⟨by decide +kernel, by decide +kernel⟩, List.mem_of_getElem? (i := 665) (by decide +kernel), List.mem_of_getElem? (i := 786) (by decide +kernel), List.mem_of_getElem? (i := 787) (by decide +kernel)⟩
theorem lw_p28 : lw_okq (⟨"FlyWheelsModel", "readMore", "(I)V"⟩, 26) := ⟨⟨by decide +kernel, by decide +kernel⟩, List.mem_of_getElem? (i := 665) (by decide +kernel), List.mem_of_getElem? (i := 791) (by decide +kernel), List.mem_of_getElem? (i := 792) (by decide +kernel)⟩
theorem lw_p29 : lw_okq (⟨"FlyWheelsModel", "number", "(II)I"⟩, 26) := ⟨⟨by decide +kernel, by decide +kernel⟩, List.mem_of_getElem? (i := 665) (by decide +kernel), List.mem_of_getElem? (i := 795) (by decide +kernel), List.mem_of_getElem? (i := 796) (by decide +kernel)⟩
theorem lw_p30 : lw_okq (⟨"FlyWheelsModel", "speedOn", "(I)I"⟩, 26) := ⟨⟨by decide +kernel, by decide +kernel⟩, List.mem_of_getElem? (i := 665) (by decide +kernel), List.mem_of_getElem? (i := 807) (by decide +kernel), List.mem_of_getElem? (i := 808) (by decide +kernel)⟩
theorem lw_p31 : lw_okq (⟨"FlyWheelsModel", "isWheel", "(I)Z"⟩, 26) := ⟨⟨by decide +kernel, by decide +kernel⟩, List.mem_of_getElem? (i := 665) (by decide +kernel), List.mem_of_getElem? (i := 815) (by decide +kernel), List.mem_of_getElem? (i := 816) (by decide +kernel)⟩
def lw_privs_2 : List (MethodName × Nat) := [(⟨"FlyWheels", "runFailing", "(II)V"⟩, 14), (⟨"FlyWheels", "trialGoesAsSeen", "()Z"⟩, 14), (⟨"FlyWheels", "trialIsAsSeen", "(I)Z"⟩, 14), (⟨"FlyWheels", "fittingLosses", "(I)I"⟩, 14), (⟨"FlyWheels", "lookAhead", "(II)V"⟩, 14), (⟨"FlyWheels", "leftAtWorst", "(II)I"⟩, 14), (⟨"FlyWheels", "lossesLookingLike", "(III)I"⟩, 14), (⟨"FlyWheelsModel", "readsOn", "()V"⟩, 26), (⟨"FlyWheelsModel", "byteAt", "(I)I"⟩, 26), (⟨"FlyWheelsModel", "fails", "(I)V"⟩, 26), (⟨"FlyWheelsModel", "readLine", "()V"⟩, 26), (⟨"FlyWheelsModel", "nameHere", "()I"⟩, 26), (⟨"FlyWheelsModel", "readMore", "(I)V"⟩, 26), (⟨"FlyWheelsModel", "number", "(II)I"⟩, 26), (⟨"FlyWheelsModel", "speedOn", "(I)I"⟩, 26), (⟨"FlyWheelsModel", "isWheel", "(I)Z"⟩, 26)]
theorem lw_r2 : ∀ q ∈ lw_privs_2, lw_okq q := List.forall_mem_cons.mpr ⟨lw_p16, List.forall_mem_cons.mpr ⟨lw_p17, List.forall_mem_cons.mpr ⟨lw_p18, List.forall_mem_cons.mpr ⟨lw_p19, List.forall_mem_cons.mpr ⟨lw_p20, List.forall_mem_cons.mpr ⟨lw_p21, List.forall_mem_cons.mpr ⟨lw_p22, List.forall_mem_cons.mpr ⟨lw_p23, List.forall_mem_cons.mpr ⟨lw_p24, List.forall_mem_cons.mpr ⟨lw_p25, List.forall_mem_cons.mpr ⟨lw_p26, List.forall_mem_cons.mpr ⟨lw_p27, List.forall_mem_cons.mpr ⟨lw_p28, List.forall_mem_cons.mpr ⟨lw_p29, List.forall_mem_cons.mpr ⟨lw_p30, List.forall_mem_cons.mpr ⟨lw_p31, fun _ h => absurd h List.not_mem_nil⟩⟩⟩⟩⟩⟩⟩⟩⟩⟩⟩⟩⟩⟩⟩⟩
theorem lw_p32 : lw_okq (⟨"FlyWheelsModel", "joinedOn", "(II)I"⟩, 26) := ⟨⟨by decide +kernel, by decide +kernel⟩, List.mem_of_getElem? (i := 665) (by decide +kernel), List.mem_of_getElem? (i := 820) (by decide +kernel), List.mem_of_getElem? (i := 821) (by decide +kernel)⟩
theorem lw_p33 : lw_okq (⟨"FlyWheelsModel", "isAct", "(I)Z"⟩, 26) := ⟨⟨by decide +kernel, by decide +kernel⟩, List.mem_of_getElem? (i := 665) (by decide +kernel), List.mem_of_getElem? (i := 828) (by decide +kernel), List.mem_of_getElem? (i := 829) (by decide +kernel)⟩
theorem lw_p34 : lw_okq (⟨"FlyWheelsModel", "puts", "(ZIII)I"⟩, 26) := ⟨⟨by decide +kernel, by decide +kernel⟩, List.mem_of_getElem? (i := 665) (by decide +kernel), List.mem_of_getElem? (i := 840) (by decide +kernel), List.mem_of_getElem? (i := 841) (by decide +kernel)⟩
theorem lw_p35 : lw_okq (⟨"FlyWheelsModel", "adds", "(I)I"⟩, 26) := ⟨⟨by decide +kernel, by decide +kernel⟩, List.mem_of_getElem? (i := 665) (by decide +kernel), List.mem_of_getElem? (i := 865) (by decide +kernel), List.mem_of_getElem? (i := 866) (by decide +kernel)⟩
theorem lw_p36 : lw_okq (⟨"FlyWheelsModel", "actOn", "(IIZ)V"⟩, 26) := ⟨⟨by decide +kernel, by decide +kernel⟩, List.mem_of_getElem? (i := 665) (by decide +kernel), List.mem_of_getElem? (i := 877) (by decide +kernel), List.mem_of_getElem? (i := 878) (by decide +kernel)⟩
theorem lw_p37 : lw_okq (⟨"FlyWheelsModel", "tickOn", "(IZ)V"⟩, 26) := ⟨⟨by decide +kernel, by decide +kernel⟩, List.mem_of_getElem? (i := 665) (by decide +kernel), List.mem_of_getElem? (i := 886) (by decide +kernel), List.mem_of_getElem? (i := 887) (by decide +kernel)⟩
theorem lw_p38 : lw_okq (⟨"FlyWheelsModel", "lossesOn", "(I)V"⟩, 26) := ⟨⟨by decide +kernel, by decide +kernel⟩, List.mem_of_getElem? (i := 665) (by decide +kernel), List.mem_of_getElem? (i := 890) (by decide +kernel), List.mem_of_getElem? (i := 891) (by decide +kernel)⟩
theorem lw_p39 : lw_okq (⟨"FlyWheelsModel", "ticksGo", "(II)I"⟩, 26) := ⟨⟨by decide +kernel, by decide +kernel⟩, List.mem_of_getElem? (i := 665) (by decide +kernel), List.mem_of_getElem? (i := 903) (by decide +kernel), List.mem_of_getElem? (i := 904) (by decide +kernel)⟩
theorem lw_p40 : lw_okq (⟨"FlyWheelsModel", "copies", "(II)V"⟩, 26) := ⟨⟨by decide +kernel, by decide +kernel⟩, List.mem_of_getElem? (i := 665) (by decide +kernel), List.mem_of_getElem? (i := 907) (by decide +kernel), List.mem_of_getElem? (i := 908) (by decide +kernel)⟩
theorem lw_p41 : lw_okq (⟨"FlyWheelsModel", "lackThen", "()I"⟩, 26) := ⟨⟨by decide +kernel, by decide +kernel⟩, List.mem_of_getElem? (i := 665) (by decide +kernel), List.mem_of_getElem? (i := 911) (by decide +kernel), List.mem_of_getElem? (i := 912) (by decide +kernel)⟩
theorem lw_p42 : lw_okq (⟨"FlyWheelsModel", "swingOn", "(I)I"⟩, 26) := ⟨⟨by decide +kernel, by decide +kernel⟩, List.mem_of_getElem? (i := 665) (by decide +kernel), List.mem_of_getElem? (i := 915) (by decide +kernel), List.mem_of_getElem? (i := 916) (by decide +kernel)⟩
theorem lw_p43 : lw_okq (⟨"FlyWheelsModel", "mostAt", "(IIIII)I"⟩, 26) := ⟨⟨by decide +kernel, by decide +kernel⟩, List.mem_of_getElem? (i := 665) (by decide +kernel), List.mem_of_getElem? (i := 935) (by decide +kernel), List.mem_of_getElem? (i := 936) (by decide +kernel)⟩
theorem lw_p44 : lw_okq (⟨"FlyWheelsModel", "byFails", "(IIZI)J"⟩, 26) := ⟨⟨by decide +kernel, by decide +kernel⟩, List.mem_of_getElem? (i := 665) (by decide +kernel), List.mem_of_getElem? (i := 965) (by decide +kernel), List.mem_of_getElem? (i := 966) (by decide +kernel)⟩
theorem lw_p45 : lw_okq (⟨"FlyWheelsModel", "numbersAt", "(III)I"⟩, 26) := ⟨⟨by decide +kernel, by decide +kernel⟩, List.mem_of_getElem? (i := 665) (by decide +kernel), List.mem_of_getElem? (i := 991) (by decide +kernel), List.mem_of_getElem? (i := 992) (by decide +kernel)⟩
theorem lw_p46 : lw_okq (⟨"FlyWheelsModel", "isAsSeen", "(II)Z"⟩, 26) := ⟨⟨by decide +kernel, by decide +kernel⟩, List.mem_of_getElem? (i := 665) (by decide +kernel), List.mem_of_getElem? (i := 995) (by decide +kernel), List.mem_of_getElem? (i := 996) (by decide +kernel)⟩
theorem lw_p47 : lw_okq (⟨"FlyWheelsModel", "worstAt", "(II)I"⟩, 26) := ⟨⟨by decide +kernel, by decide +kernel⟩, List.mem_of_getElem? (i := 665) (by decide +kernel), List.mem_of_getElem? (i := 1007) (by decide +kernel), List.mem_of_getElem? (i := 1008) (by decide +kernel)⟩
def lw_privs_3 : List (MethodName × Nat) := [(⟨"FlyWheelsModel", "joinedOn", "(II)I"⟩, 26), (⟨"FlyWheelsModel", "isAct", "(I)Z"⟩, 26), (⟨"FlyWheelsModel", "puts", "(ZIII)I"⟩, 26), (⟨"FlyWheelsModel", "adds", "(I)I"⟩, 26), (⟨"FlyWheelsModel", "actOn", "(IIZ)V"⟩, 26), (⟨"FlyWheelsModel", "tickOn", "(IZ)V"⟩, 26), (⟨"FlyWheelsModel", "lossesOn", "(I)V"⟩, 26), (⟨"FlyWheelsModel", "ticksGo", "(II)I"⟩, 26), (⟨"FlyWheelsModel", "copies", "(II)V"⟩, 26), (⟨"FlyWheelsModel", "lackThen", "()I"⟩, 26), (⟨"FlyWheelsModel", "swingOn", "(I)I"⟩, 26), (⟨"FlyWheelsModel", "mostAt", "(IIIII)I"⟩, 26), (⟨"FlyWheelsModel", "byFails", "(IIZI)J"⟩, 26), (⟨"FlyWheelsModel", "numbersAt", "(III)I"⟩, 26), (⟨"FlyWheelsModel", "isAsSeen", "(II)Z"⟩, 26), (⟨"FlyWheelsModel", "worstAt", "(II)I"⟩, 26)]
theorem lw_r3 : ∀ q ∈ lw_privs_3, lw_okq q := List.forall_mem_cons.mpr ⟨lw_p32, List.forall_mem_cons.mpr ⟨lw_p33, List.forall_mem_cons.mpr ⟨lw_p34, List.forall_mem_cons.mpr ⟨lw_p35, List.forall_mem_cons.mpr ⟨lw_p36, List.forall_mem_cons.mpr ⟨lw_p37, List.forall_mem_cons.mpr ⟨lw_p38, List.forall_mem_cons.mpr ⟨lw_p39, List.forall_mem_cons.mpr ⟨lw_p40, List.forall_mem_cons.mpr ⟨lw_p41, List.forall_mem_cons.mpr ⟨lw_p42, List.forall_mem_cons.mpr ⟨lw_p43, List.forall_mem_cons.mpr ⟨lw_p44, List.forall_mem_cons.mpr ⟨lw_p45, List.forall_mem_cons.mpr ⟨lw_p46, List.forall_mem_cons.mpr ⟨lw_p47, fun _ h => absurd h List.not_mem_nil⟩⟩⟩⟩⟩⟩⟩⟩⟩⟩⟩⟩⟩⟩⟩⟩
def lw_privs : List (MethodName × Nat) := lw_privs_1 ++ (lw_privs_2 ++ (lw_privs_3))
def lw_tbl : List Cond := k2_sels lw_privs ++ tables_1
theorem lw_privs_ok : ∀ q ∈ lw_privs, lw_okq q := by
  show ∀ q ∈ lw_privs_1 ++ (lw_privs_2 ++ (lw_privs_3)), lw_okq q
  exact List.forall_mem_append.mpr ⟨lw_r1, List.forall_mem_append.mpr ⟨lw_r2, lw_r3⟩⟩
end
section
def RX0 : String := "FlyWheels$Rig"
def TX0 : u_T := fun k => match k with
  | 0 => ("FlyWheels$Rig", "shaftMass", "I", false)
  | 1 => ("FlyWheels$Rig", "shaftSwing", "I", false)
  | 2 => ("FlyWheels$Rig", "wheels", "I", false)
  | 3 => ("FlyWheels$Rig", "kinds", "[I", true)
  | 4 => ("FlyWheels$Rig", "masses", "[I", true)
  | 5 => ("FlyWheels$Rig", "losses", "[I", true)
  | 6 => ("FlyWheels$Rig", "swings", "[I", true)
  | 7 => ("FlyWheels$Rig", "acts", "I", false)
  | 8 => ("FlyWheels$Rig", "plan", "[I", true)
  | 9 => ("FlyWheels$Rig", "tick", "I", false)
  | 10 => ("FlyWheels$Rig", "done", "I", false)
  | 11 => ("FlyWheels$Rig", "lack", "I", false)
  | _ => ("FlyWheels$Rig", "lost", "I", false)
def tyX0 : Nat → FieldType := fun k => match k with
  | 0 => .int
  | 1 => .int
  | 2 => .int
  | 3 => .array .int
  | 4 => .array .int
  | 5 => .array .int
  | 6 => .array .int
  | 7 => .int
  | 8 => .array .int
  | 9 => .int
  | 10 => .int
  | 11 => .int
  | _ => .int
abbrev wsX00 : List Cond := u_ws RX0 TX0 13
theorem nmX0 : ∀ a, a < 13 → ∀ b, b < 13 → a ≠ b → (TX0 a).2.1 ≠ (TX0 b).2.1 := by decide +kernel
theorem tyX0_ok : ∀ k, k < 13 → parseFieldDescriptor (TX0 k).2.2.1 = some (tyX0 k) := by decide +kernel
abbrev cX0_init : ByteArray := prog_2_method_1_code
def yX0_init : MethodName := ⟨RX0, "<init>", "()V"⟩
abbrev cX0_clear : ByteArray := prog_2_method_2_code
def yX0_clear : MethodName := ⟨RX0, "clear", "()V"⟩
abbrev cX0_clearSums : ByteArray := prog_2_method_3_code
def yX0_clearSums : MethodName := ⟨RX0, "clearSums", "()V"⟩
abbrev cX0_become : ByteArray := prog_2_method_4_code
def yX0_become : MethodName := ⟨RX0, "become", "(LFlyWheels$Rig;)V"⟩
abbrev cX0_startAs : ByteArray := prog_2_method_5_code
def yX0_startAs : MethodName := ⟨RX0, "startAs", "(LFlyWheels$Rig;)V"⟩
abbrev cX0_hasWheel : ByteArray := prog_2_method_6_code
def yX0_hasWheel : MethodName := ⟨RX0, "hasWheel", "(I)Z"⟩
abbrev cX0_hasAct : ByteArray := prog_2_method_7_code
def yX0_hasAct : MethodName := ⟨RX0, "hasAct", "(I)Z"⟩
abbrev cX0_appendWheel : ByteArray := prog_2_method_8_code
def yX0_appendWheel : MethodName := ⟨RX0, "appendWheel", "(III)I"⟩
abbrev cX0_appendAct : ByteArray := prog_2_method_9_code
def yX0_appendAct : MethodName := ⟨RX0, "appendAct", "(I)I"⟩
abbrev cX0_shaftSpeed : ByteArray := prog_2_method_10_code
def yX0_shaftSpeed : MethodName := ⟨RX0, "shaftSpeed", "()I"⟩
abbrev cX0_allSwing : ByteArray := prog_2_method_11_code
def yX0_allSwing : MethodName := ⟨RX0, "allSwing", "()I"⟩
abbrev cX0_sumOfWheels : ByteArray := prog_2_method_12_code
def yX0_sumOfWheels : MethodName := ⟨RX0, "sumOfWheels", "([I)I"⟩
abbrev cX0_swingsAs : ByteArray := prog_2_method_13_code
def yX0_swingsAs : MethodName := ⟨RX0, "swingsAs", "(LFlyWheels$Rig;)Z"⟩
abbrev cX0_dueNumber : ByteArray := prog_2_method_14_code
def yX0_dueNumber : MethodName := ⟨RX0, "dueNumber", "()I"⟩
abbrev cX0_dueAct : ByteArray := prog_2_method_15_code
def yX0_dueAct : MethodName := ⟨RX0, "dueAct", "()I"⟩
abbrev cX0_neverJoin : ByteArray := prog_2_method_16_code
def yX0_neverJoin : MethodName := ⟨RX0, "neverJoin", "(I)V"⟩
abbrev cX0_perform : ByteArray := prog_2_method_17_code
def yX0_perform : MethodName := ⟨RX0, "perform", "(I)V"⟩
abbrev cX0_takeLoad : ByteArray := prog_2_method_18_code
def yX0_takeLoad : MethodName := ⟨RX0, "takeLoad", "(I)V"⟩
abbrev cX0_joinWheel : ByteArray := prog_2_method_19_code
def yX0_joinWheel : MethodName := ⟨RX0, "joinWheel", "(I)V"⟩
abbrev cX0_joinedSwing : ByteArray := prog_2_method_20_code
def yX0_joinedSwing : MethodName := ⟨RX0, "joinedSwing", "(I)I"⟩
abbrev cX0_passTick : ByteArray := prog_2_method_21_code
def yX0_passTick : MethodName := ⟨RX0, "passTick", "()V"⟩
abbrev cX0_passTickWith : ByteArray := prog_2_method_22_code
def yX0_passTickWith : MethodName := ⟨RX0, "passTickWith", "(I)V"⟩
abbrev cX0_runTicks : ByteArray := prog_2_method_23_code
def yX0_runTicks : MethodName := ⟨RX0, "runTicks", "(I)V"⟩
def RX1 : String := "FlyWheels$Sheet"
def TX1 : u_T := fun k => match k with
  | 0 => ("FlyWheels$Sheet", "made", "Z", false)
  | 1 => ("FlyWheels$Sheet", "lane", "I", false)
  | 2 => ("FlyWheels$Sheet", "size", "I", false)
  | _ => ("FlyWheels$Sheet", "cells", "[I", true)
def tyX1 : Nat → FieldType := fun k => match k with
  | 0 => .boolean
  | 1 => .int
  | 2 => .int
  | _ => .array .int
abbrev wsX10 : List Cond := u_ws RX1 TX1 4
theorem nmX1 : ∀ a, a < 4 → ∀ b, b < 4 → a ≠ b → (TX1 a).2.1 ≠ (TX1 b).2.1 := by decide +kernel
theorem tyX1_ok : ∀ k, k < 4 → parseFieldDescriptor (TX1 k).2.2.1 = some (tyX1 k) := by decide +kernel
abbrev cX1_init : ByteArray := prog_3_method_1_code
def yX1_init : MethodName := ⟨RX1, "<init>", "()V"⟩
abbrev cX1_renew : ByteArray := prog_3_method_2_code
def yX1_renew : MethodName := ⟨RX1, "renew", "(II)V"⟩
abbrev cX1_faultAt : ByteArray := prog_3_method_3_code
def yX1_faultAt : MethodName := ⟨RX1, "faultAt", "(II)I"⟩
abbrev cX1_write : ByteArray := prog_3_method_4_code
def yX1_write : MethodName := ⟨RX1, "write", "(II)V"⟩
def RX2 : String := "FlyWheels$Tape"
def TX2 : u_T := fun k => match k with
  | 0 => ("FlyWheels$Tape", "bytes", "[I", true)
  | 1 => ("FlyWheels$Tape", "length", "I", false)
  | 2 => ("FlyWheels$Tape", "wrong", "I", false)
  | 3 => ("FlyWheels$Tape", "at", "I", false)
  | 4 => ("FlyWheels$Tape", "token", "I", false)
  | 5 => ("FlyWheels$Tape", "place", "I", false)
  | 6 => ("FlyWheels$Tape", "number", "I", false)
  | _ => ("FlyWheels$Tape", "shaftTold", "Z", false)
def tyX2 : Nat → FieldType := fun k => match k with
  | 0 => .array .int
  | 1 => .int
  | 2 => .int
  | 3 => .int
  | 4 => .int
  | 5 => .int
  | 6 => .int
  | _ => .boolean
abbrev wsX20 : List Cond := u_ws RX2 TX2 8
theorem nmX2 : ∀ a, a < 8 → ∀ b, b < 8 → a ≠ b → (TX2 a).2.1 ≠ (TX2 b).2.1 := by decide +kernel
theorem tyX2_ok : ∀ k, k < 8 → parseFieldDescriptor (TX2 k).2.2.1 = some (tyX2 k) := by decide +kernel
abbrev cX2_init : ByteArray := prog_4_method_1_code
def yX2_init : MethodName := ⟨RX2, "<init>", "()V"⟩
abbrev cX2_append : ByteArray := prog_4_method_2_code
def yX2_append : MethodName := ⟨RX2, "append", "(I)I"⟩
abbrev cX2_tell : ByteArray := prog_4_method_3_code
def yX2_tell : MethodName := ⟨RX2, "tell", "(LFlyWheels$Rig;)I"⟩
abbrev cX2_nextToken : ByteArray := prog_4_method_4_code
def yX2_nextToken : MethodName := ⟨RX2, "nextToken", "()V"⟩
abbrev cX2_takeName : ByteArray := prog_4_method_5_code
def yX2_takeName : MethodName := ⟨RX2, "takeName", "()V"⟩
abbrev cX2_takeNumber : ByteArray := prog_4_method_6_code
def yX2_takeNumber : MethodName := ⟨RX2, "takeNumber", "()V"⟩
abbrev cX2_isLetter : ByteArray := prog_4_method_7_code
def yX2_isLetter : MethodName := ⟨RX2, "isLetter", "(I)Z"⟩
abbrev cX2_isFigure : ByteArray := prog_4_method_8_code
def yX2_isFigure : MethodName := ⟨RX2, "isFigure", "(I)Z"⟩
abbrev cX2_takeLine : ByteArray := prog_4_method_9_code
def yX2_takeLine : MethodName := ⟨RX2, "takeLine", "(LFlyWheels$Rig;)V"⟩
abbrev cX2_takeWheelLine : ByteArray := prog_4_method_10_code
def yX2_takeWheelLine : MethodName := ⟨RX2, "takeWheelLine", "(LFlyWheels$Rig;I)V"⟩
abbrev cX2_takeShaftLine : ByteArray := prog_4_method_11_code
def yX2_takeShaftLine : MethodName := ⟨RX2, "takeShaftLine", "(LFlyWheels$Rig;)V"⟩
abbrev cX2_takeActLine : ByteArray := prog_4_method_12_code
def yX2_takeActLine : MethodName := ⟨RX2, "takeActLine", "(LFlyWheels$Rig;I)V"⟩
abbrev cX2_firstActOf : ByteArray := prog_4_method_13_code
def yX2_firstActOf : MethodName := ⟨RX2, "firstActOf", "(I)I"⟩
abbrev cX2_numberWithin : ByteArray := prog_4_method_14_code
def yX2_numberWithin : MethodName := ⟨RX2, "numberWithin", "(II)I"⟩
abbrev cX2_takeStop : ByteArray := prog_4_method_15_code
def yX2_takeStop : MethodName := ⟨RX2, "takeStop", "()V"⟩
abbrev cX2_lineOfName : ByteArray := prog_4_method_16_code
def yX2_lineOfName : MethodName := ⟨RX2, "lineOfName", "()I"⟩
abbrev cX2_nameOfLine : ByteArray := prog_4_method_17_code
def yX2_nameOfLine : MethodName := ⟨RX2, "nameOfLine", "(I)Ljava/lang/String;"⟩
abbrev cX2_tokenIs : ByteArray := prog_4_method_18_code
def yX2_tokenIs : MethodName := ⟨RX2, "tokenIs", "(Ljava/lang/String;)Z"⟩
def RX3 : String := "FlyWheels"
def TX3 : u_T := fun k => match k with
  | 0 => ("FlyWheels", "now", "LFlyWheels$Rig;", true)
  | 1 => ("FlyWheels", "trial", "LFlyWheels$Rig;", true)
  | 2 => ("FlyWheels", "told", "LFlyWheels$Rig;", true)
  | 3 => ("FlyWheels", "images", "[LFlyWheels$Rig;", true)
  | 4 => ("FlyWheels", "kept", "[Z", true)
  | 5 => ("FlyWheels", "tape", "LFlyWheels$Tape;", true)
  | 6 => ("FlyWheels", "sheets", "[LFlyWheels$Sheet;", true)
  | 7 => ("FlyWheels", "seenTicks", "[I", true)
  | 8 => ("FlyWheels", "seenWheel", "[I", true)
  | 9 => ("FlyWheels", "seenSwing", "[I", true)
  | 10 => ("FlyWheels", "seenCount", "I", false)
  | 11 => ("FlyWheels", "textFault", "I", false)
  | 12 => ("FlyWheels", "readFault", "I", false)
  | _ => ("FlyWheels", "looks", "[I", true)
def tyX3 : Nat → FieldType := fun k => match k with
  | 0 => .object "FlyWheels$Rig"
  | 1 => .object "FlyWheels$Rig"
  | 2 => .object "FlyWheels$Rig"
  | 3 => .array (.object "FlyWheels$Rig")
  | 4 => .array .boolean
  | 5 => .object "FlyWheels$Tape"
  | 6 => .array (.object "FlyWheels$Sheet")
  | 7 => .array .int
  | 8 => .array .int
  | 9 => .array .int
  | 10 => .int
  | 11 => .int
  | 12 => .int
  | _ => .array .int
abbrev wsX30 : List Cond := u_ws RX3 TX3 14
theorem nmX3 : ∀ a, a < 14 → ∀ b, b < 14 → a ≠ b → (TX3 a).2.1 ≠ (TX3 b).2.1 := by decide +kernel
theorem tyX3_ok : ∀ k, k < 14 → parseFieldDescriptor (TX3 k).2.2.1 = some (tyX3 k) := by decide +kernel
abbrev cX3_init : ByteArray := prog_1_method_1_code
def yX3_init : MethodName := ⟨RX3, "<init>", "()V"⟩
abbrev cX3_feed : ByteArray := prog_1_method_2_code
def yX3_feed : MethodName := ⟨RX3, "feed", "(I)I"⟩
abbrev cX3_end : ByteArray := prog_1_method_3_code
def yX3_end : MethodName := ⟨RX3, "end", "(I)I"⟩
abbrev cX3_text : ByteArray := prog_1_method_4_code
def yX3_text : MethodName := ⟨RX3, "text", "()I"⟩
abbrev cX3_fault : ByteArray := prog_1_method_5_code
def yX3_fault : MethodName := ⟨RX3, "fault", "()I"⟩
abbrev cX3_rule : ByteArray := prog_1_method_6_code
def yX3_rule : MethodName := ⟨RX3, "rule", "(I)I"⟩
abbrev cX3_wheel : ByteArray := prog_1_method_7_code
def yX3_wheel : MethodName := ⟨RX3, "wheel", "(II)I"⟩
abbrev cX3_act : ByteArray := prog_1_method_8_code
def yX3_act : MethodName := ⟨RX3, "act", "(I)I"⟩
abbrev cX3_alter : ByteArray := prog_1_method_9_code
def yX3_alter : MethodName := ⟨RX3, "alter", "(III)I"⟩
abbrev cX3_shaft : ByteArray := prog_1_method_10_code
def yX3_shaft : MethodName := ⟨RX3, "shaft", "(I)I"⟩
abbrev cX3_put : ByteArray := prog_1_method_11_code
def yX3_put : MethodName := ⟨RX3, "put", "(III)I"⟩
abbrev cX3_cut : ByteArray := prog_1_method_12_code
def yX3_cut : MethodName := ⟨RX3, "cut", "(I)I"⟩
abbrev cX3_set : ByteArray := prog_1_method_13_code
def yX3_set : MethodName := ⟨RX3, "set", "(II)I"⟩
abbrev cX3_add : ByteArray := prog_1_method_14_code
def yX3_add : MethodName := ⟨RX3, "add", "(I)I"⟩
abbrev cX3_drop : ByteArray := prog_1_method_15_code
def yX3_drop : MethodName := ⟨RX3, "drop", "(I)I"⟩
abbrev cX3_turn : ByteArray := prog_1_method_16_code
def yX3_turn : MethodName := ⟨RX3, "turn", "(I)I"⟩
abbrev cX3_ticks : ByteArray := prog_1_method_17_code
def yX3_ticks : MethodName := ⟨RX3, "ticks", "(I)I"⟩
abbrev cX3_runs : ByteArray := prog_1_method_18_code
def yX3_runs : MethodName := ⟨RX3, "runs", "(II)I"⟩
abbrev cX3_ahead : ByteArray := prog_1_method_19_code
def yX3_ahead : MethodName := ⟨RX3, "ahead", "(II)I"⟩
abbrev cX3_when : ByteArray := prog_1_method_20_code
def yX3_when : MethodName := ⟨RX3, "when", "(I)I"⟩
abbrev cX3_again : ByteArray := prog_1_method_21_code
def yX3_again : MethodName := ⟨RX3, "again", "()I"⟩
abbrev cX3_mass : ByteArray := prog_1_method_22_code
def yX3_mass : MethodName := ⟨RX3, "mass", "(III)I"⟩
abbrev cX3_kind : ByteArray := prog_1_method_23_code
def yX3_kind : MethodName := ⟨RX3, "kind", "(III)I"⟩
abbrev cX3_bears : ByteArray := prog_1_method_24_code
def yX3_bears : MethodName := ⟨RX3, "bears", "(II)I"⟩
abbrev cX3_swap : ByteArray := prog_1_method_25_code
def yX3_swap : MethodName := ⟨RX3, "swap", "(II)I"⟩
abbrev cX3_omit : ByteArray := prog_1_method_26_code
def yX3_omit : MethodName := ⟨RX3, "omit", "(II)I"⟩
abbrev cX3_off : ByteArray := prog_1_method_27_code
def yX3_off : MethodName := ⟨RX3, "off", "(II)I"⟩
abbrev cX3_luck : ByteArray := prog_1_method_28_code
def yX3_luck : MethodName := ⟨RX3, "luck", "(III)J"⟩
abbrev cX3_mean : ByteArray := prog_1_method_29_code
def yX3_mean : MethodName := ⟨RX3, "mean", "(III)J"⟩
abbrev cX3_see : ByteArray := prog_1_method_30_code
def yX3_see : MethodName := ⟨RX3, "see", "(III)I"⟩
abbrev cX3_forget : ByteArray := prog_1_method_31_code
def yX3_forget : MethodName := ⟨RX3, "forget", "(I)I"⟩
abbrev cX3_kinds : ByteArray := prog_1_method_32_code
def yX3_kinds : MethodName := ⟨RX3, "kinds", "(I)I"⟩
abbrev cX3_losses : ByteArray := prog_1_method_33_code
def yX3_losses : MethodName := ⟨RX3, "losses", "(I)I"⟩
abbrev cX3_ask : ByteArray := prog_1_method_34_code
def yX3_ask : MethodName := ⟨RX3, "ask", "(II)I"⟩
abbrev cX3_drift : ByteArray := prog_1_method_35_code
def yX3_drift : MethodName := ⟨RX3, "drift", "(III)I"⟩
abbrev cX3_keep : ByteArray := prog_1_method_36_code
def yX3_keep : MethodName := ⟨RX3, "keep", "(I)I"⟩
abbrev cX3_back : ByteArray := prog_1_method_37_code
def yX3_back : MethodName := ⟨RX3, "back", "(I)I"⟩
abbrev cX3_sheet : ByteArray := prog_1_method_38_code
def yX3_sheet : MethodName := ⟨RX3, "sheet", "(III)I"⟩
abbrev cX3_lay : ByteArray := prog_1_method_39_code
def yX3_lay : MethodName := ⟨RX3, "lay", "(III)I"⟩
abbrev cX3_read : ByteArray := prog_1_method_40_code
def yX3_read : MethodName := ⟨RX3, "read", "(IIII)I"⟩
abbrev cX3_torn : ByteArray := prog_1_method_41_code
def yX3_torn : MethodName := ⟨RX3, "torn", "()I"⟩
abbrev cX3_count : ByteArray := prog_1_method_42_code
def yX3_count : MethodName := ⟨RX3, "count", "(I)I"⟩
abbrev cX3_within : ByteArray := prog_1_method_43_code
def yX3_within : MethodName := ⟨RX3, "within", "(III)Z"⟩
abbrev cX3_quotient : ByteArray := prog_1_method_44_code
def yX3_quotient : MethodName := ⟨RX3, "quotient", "(II)I"⟩
abbrev cX3_replace : ByteArray := prog_1_method_45_code
def yX3_replace : MethodName := ⟨RX3, "replace", "([III)I"⟩
abbrev cX3_addAct : ByteArray := prog_1_method_46_code
def yX3_addAct : MethodName := ⟨RX3, "addAct", "(I)I"⟩
abbrev cX3_asksBest : ByteArray := prog_1_method_47_code
def yX3_asksBest : MethodName := ⟨RX3, "asksBest", "(II)Z"⟩
abbrev cX3_doneAsItIs : ByteArray := prog_1_method_48_code
def yX3_doneAsItIs : MethodName := ⟨RX3, "doneAsItIs", "(I)I"⟩
abbrev cX3_doneSwapped : ByteArray := prog_1_method_49_code
def yX3_doneSwapped : MethodName := ⟨RX3, "doneSwapped", "(III)I"⟩
abbrev cX3_asksOdds : ByteArray := prog_1_method_50_code
def yX3_asksOdds : MethodName := ⟨RX3, "asksOdds", "(III)Z"⟩
abbrev cX3_runFailing : ByteArray := prog_1_method_51_code
def yX3_runFailing : MethodName := ⟨RX3, "runFailing", "(II)V"⟩
abbrev cX3_weightOf : ByteArray := prog_1_method_52_code
def yX3_weightOf : MethodName := ⟨RX3, "weightOf", "(III)J"⟩
abbrev cX3_allWeights : ByteArray := prog_1_method_53_code
def yX3_allWeights : MethodName := ⟨RX3, "allWeights", "(I)J"⟩
abbrev cX3_partOfFraction : ByteArray := prog_1_method_54_code
def yX3_partOfFraction : MethodName := ⟨RX3, "partOfFraction", "(JJI)J"⟩
abbrev cX3_fittingLosses : ByteArray := prog_1_method_55_code
def yX3_fittingLosses : MethodName := ⟨RX3, "fittingLosses", "(I)I"⟩
abbrev cX3_trialGoesAsSeen : ByteArray := prog_1_method_56_code
def yX3_trialGoesAsSeen : MethodName := ⟨RX3, "trialGoesAsSeen", "()Z"⟩
abbrev cX3_trialIsAsSeen : ByteArray := prog_1_method_57_code
def yX3_trialIsAsSeen : MethodName := ⟨RX3, "trialIsAsSeen", "(I)Z"⟩
abbrev cX3_lookAhead : ByteArray := prog_1_method_58_code
def yX3_lookAhead : MethodName := ⟨RX3, "lookAhead", "(II)V"⟩
abbrev cX3_leftAtWorst : ByteArray := prog_1_method_59_code
def yX3_leftAtWorst : MethodName := ⟨RX3, "leftAtWorst", "(II)I"⟩
abbrev cX3_lossesLookingLike : ByteArray := prog_1_method_60_code
def yX3_lossesLookingLike : MethodName := ⟨RX3, "lossesLookingLike", "(III)I"⟩
def RX4 : String := "FlyWheelsModel"
def TX4 : u_T := fun k => match k with
  | 0 => ("FlyWheelsModel", "state", "[I", true)
  | 1 => ("FlyWheelsModel", "readPage", "[I", true)
  | 2 => ("FlyWheelsModel", "isShaftTold", "Z", false)
  | 3 => ("FlyWheelsModel", "tape", "[I", true)
  | 4 => ("FlyWheelsModel", "taped", "I", false)
  | 5 => ("FlyWheelsModel", "fault", "I", false)
  | 6 => ("FlyWheelsModel", "broken", "I", false)
  | 7 => ("FlyWheelsModel", "brokenAt", "I", false)
  | 8 => ("FlyWheelsModel", "spot", "I", false)
  | 9 => ("FlyWheelsModel", "here", "I", false)
  | 10 => ("FlyWheelsModel", "token", "I", false)
  | 11 => ("FlyWheelsModel", "value", "I", false)
  | 12 => ("FlyWheelsModel", "ends", "[I", true)
  | 13 => ("FlyWheelsModel", "letters", "[I", true)
  | 14 => ("FlyWheelsModel", "freed", "I", false)
  | 15 => ("FlyWheelsModel", "omitted", "I", false)
  | 16 => ("FlyWheelsModel", "taken", "I", false)
  | 17 => ("FlyWheelsModel", "fastest", "I", false)
  | 18 => ("FlyWheelsModel", "seen", "[I", true)
  | 19 => ("FlyWheelsModel", "seenMany", "I", false)
  | 20 => ("FlyWheelsModel", "swingBy", "[I", true)
  | 21 => ("FlyWheelsModel", "isKept", "[Z", true)
  | 22 => ("FlyWheelsModel", "lanes", "[I", true)
  | 23 => ("FlyWheelsModel", "lengths", "[I", true)
  | 24 => ("FlyWheelsModel", "cells", "[I", true)
  | _ => ("FlyWheelsModel", "torn", "I", false)
def tyX4 : Nat → FieldType := fun k => match k with
  | 0 => .array .int
  | 1 => .array .int
  | 2 => .boolean
  | 3 => .array .int
  | 4 => .int
  | 5 => .int
  | 6 => .int
  | 7 => .int
  | 8 => .int
  | 9 => .int
  | 10 => .int
  | 11 => .int
  | 12 => .array .int
  | 13 => .array .int
  | 14 => .int
  | 15 => .int
  | 16 => .int
  | 17 => .int
  | 18 => .array .int
  | 19 => .int
  | 20 => .array .int
  | 21 => .array .boolean
  | 22 => .array .int
  | 23 => .array .int
  | 24 => .array .int
  | _ => .int
abbrev wsX40 : List Cond := u_ws RX4 TX4 26
theorem nmX4 : ∀ a, a < 26 → ∀ b, b < 26 → a ≠ b → (TX4 a).2.1 ≠ (TX4 b).2.1 := by decide +kernel
theorem tyX4_ok : ∀ k, k < 26 → parseFieldDescriptor (TX4 k).2.2.1 = some (tyX4 k) := by decide +kernel
abbrev cX4_init : ByteArray := prog_6_method_1_code
def yX4_init : MethodName := ⟨RX4, "<init>", "()V"⟩
abbrev cX4_in : ByteArray := prog_6_method_3_code
def yX4_in : MethodName := ⟨RX4, "in", "(JJJ)Z"⟩
abbrev cX4_feed : ByteArray := prog_6_method_4_code
def yX4_feed : MethodName := ⟨RX4, "feed", "(I)I"⟩
abbrev cX4_end : ByteArray := prog_6_method_5_code
def yX4_end : MethodName := ⟨RX4, "end", "(I)I"⟩
abbrev cX4_byteAt : ByteArray := prog_6_method_6_code
def yX4_byteAt : MethodName := ⟨RX4, "byteAt", "(I)I"⟩
abbrev cX4_fails : ByteArray := prog_6_method_7_code
def yX4_fails : MethodName := ⟨RX4, "fails", "(I)V"⟩
abbrev cX4_nameHere : ByteArray := prog_6_method_8_code
def yX4_nameHere : MethodName := ⟨RX4, "nameHere", "()I"⟩
abbrev cX4_readsOn : ByteArray := prog_6_method_9_code
def yX4_readsOn : MethodName := ⟨RX4, "readsOn", "()V"⟩
abbrev cX4_number : ByteArray := prog_6_method_10_code
def yX4_number : MethodName := ⟨RX4, "number", "(II)I"⟩
abbrev cX4_readMore : ByteArray := prog_6_method_11_code
def yX4_readMore : MethodName := ⟨RX4, "readMore", "(I)V"⟩
abbrev cX4_readLine : ByteArray := prog_6_method_12_code
def yX4_readLine : MethodName := ⟨RX4, "readLine", "()V"⟩
abbrev cX4_text : ByteArray := prog_6_method_13_code
def yX4_text : MethodName := ⟨RX4, "text", "()I"⟩
abbrev cX4_fault : ByteArray := prog_6_method_14_code
def yX4_fault : MethodName := ⟨RX4, "fault", "()I"⟩
abbrev cX4_isWheel : ByteArray := prog_6_method_15_code
def yX4_isWheel : MethodName := ⟨RX4, "isWheel", "(I)Z"⟩
abbrev cX4_isAct : ByteArray := prog_6_method_16_code
def yX4_isAct : MethodName := ⟨RX4, "isAct", "(I)Z"⟩
abbrev cX4_isLong : ByteArray := prog_6_method_17_code
def yX4_isLong : MethodName := ⟨RX4, "isLong", "(I)Z"⟩
abbrev cX4_joinedOn : ByteArray := prog_6_method_18_code
def yX4_joinedOn : MethodName := ⟨RX4, "joinedOn", "(II)I"⟩
abbrev cX4_speedOn : ByteArray := prog_6_method_19_code
def yX4_speedOn : MethodName := ⟨RX4, "speedOn", "(I)I"⟩
abbrev cX4_actOn : ByteArray := prog_6_method_20_code
def yX4_actOn : MethodName := ⟨RX4, "actOn", "(IIZ)V"⟩
abbrev cX4_lossesOn : ByteArray := prog_6_method_21_code
def yX4_lossesOn : MethodName := ⟨RX4, "lossesOn", "(I)V"⟩
abbrev cX4_tickOn : ByteArray := prog_6_method_22_code
def yX4_tickOn : MethodName := ⟨RX4, "tickOn", "(IZ)V"⟩
abbrev cX4_swingOn : ByteArray := prog_6_method_23_code
def yX4_swingOn : MethodName := ⟨RX4, "swingOn", "(I)I"⟩
abbrev cX4_rule : ByteArray := prog_6_method_24_code
def yX4_rule : MethodName := ⟨RX4, "rule", "(I)I"⟩
abbrev cX4_wheel : ByteArray := prog_6_method_25_code
def yX4_wheel : MethodName := ⟨RX4, "wheel", "(II)I"⟩
abbrev cX4_act : ByteArray := prog_6_method_26_code
def yX4_act : MethodName := ⟨RX4, "act", "(I)I"⟩
abbrev cX4_puts : ByteArray := prog_6_method_27_code
def yX4_puts : MethodName := ⟨RX4, "puts", "(ZIII)I"⟩
abbrev cX4_alter : ByteArray := prog_6_method_28_code
def yX4_alter : MethodName := ⟨RX4, "alter", "(III)I"⟩
abbrev cX4_shaft : ByteArray := prog_6_method_29_code
def yX4_shaft : MethodName := ⟨RX4, "shaft", "(I)I"⟩
abbrev cX4_put : ByteArray := prog_6_method_30_code
def yX4_put : MethodName := ⟨RX4, "put", "(III)I"⟩
abbrev cX4_cut : ByteArray := prog_6_method_31_code
def yX4_cut : MethodName := ⟨RX4, "cut", "(I)I"⟩
abbrev cX4_set : ByteArray := prog_6_method_32_code
def yX4_set : MethodName := ⟨RX4, "set", "(II)I"⟩
abbrev cX4_adds : ByteArray := prog_6_method_33_code
def yX4_adds : MethodName := ⟨RX4, "adds", "(I)I"⟩
abbrev cX4_add : ByteArray := prog_6_method_34_code
def yX4_add : MethodName := ⟨RX4, "add", "(I)I"⟩
abbrev cX4_drop : ByteArray := prog_6_method_35_code
def yX4_drop : MethodName := ⟨RX4, "drop", "(I)I"⟩
abbrev cX4_turn : ByteArray := prog_6_method_36_code
def yX4_turn : MethodName := ⟨RX4, "turn", "(I)I"⟩
abbrev cX4_ticks : ByteArray := prog_6_method_37_code
def yX4_ticks : MethodName := ⟨RX4, "ticks", "(I)I"⟩
abbrev cX4_copies : ByteArray := prog_6_method_38_code
def yX4_copies : MethodName := ⟨RX4, "copies", "(II)V"⟩
abbrev cX4_ticksGo : ByteArray := prog_6_method_39_code
def yX4_ticksGo : MethodName := ⟨RX4, "ticksGo", "(II)I"⟩
abbrev cX4_lackThen : ByteArray := prog_6_method_40_code
def yX4_lackThen : MethodName := ⟨RX4, "lackThen", "()I"⟩
abbrev cX4_runs : ByteArray := prog_6_method_41_code
def yX4_runs : MethodName := ⟨RX4, "runs", "(II)I"⟩
abbrev cX4_ahead : ByteArray := prog_6_method_42_code
def yX4_ahead : MethodName := ⟨RX4, "ahead", "(II)I"⟩
abbrev cX4_when : ByteArray := prog_6_method_43_code
def yX4_when : MethodName := ⟨RX4, "when", "(I)I"⟩
abbrev cX4_again : ByteArray := prog_6_method_44_code
def yX4_again : MethodName := ⟨RX4, "again", "()I"⟩
abbrev cX4_mostAt : ByteArray := prog_6_method_45_code
def yX4_mostAt : MethodName := ⟨RX4, "mostAt", "(IIIII)I"⟩
abbrev cX4_mass : ByteArray := prog_6_method_46_code
def yX4_mass : MethodName := ⟨RX4, "mass", "(III)I"⟩
abbrev cX4_kind : ByteArray := prog_6_method_47_code
def yX4_kind : MethodName := ⟨RX4, "kind", "(III)I"⟩
abbrev cX4_bears : ByteArray := prog_6_method_48_code
def yX4_bears : MethodName := ⟨RX4, "bears", "(II)I"⟩
abbrev cX4_swap : ByteArray := prog_6_method_49_code
def yX4_swap : MethodName := ⟨RX4, "swap", "(II)I"⟩
abbrev cX4_omit : ByteArray := prog_6_method_50_code
def yX4_omit : MethodName := ⟨RX4, "omit", "(II)I"⟩
abbrev cX4_off : ByteArray := prog_6_method_51_code
def yX4_off : MethodName := ⟨RX4, "off", "(II)I"⟩
abbrev cX4_lowest : ByteArray := prog_6_method_52_code
def yX4_lowest : MethodName := ⟨RX4, "lowest", "(JJI)J"⟩
abbrev cX4_byFails : ByteArray := prog_6_method_53_code
def yX4_byFails : MethodName := ⟨RX4, "byFails", "(IIZI)J"⟩
abbrev cX4_luck : ByteArray := prog_6_method_54_code
def yX4_luck : MethodName := ⟨RX4, "luck", "(III)J"⟩
abbrev cX4_mean : ByteArray := prog_6_method_55_code
def yX4_mean : MethodName := ⟨RX4, "mean", "(III)J"⟩
abbrev cX4_see : ByteArray := prog_6_method_56_code
def yX4_see : MethodName := ⟨RX4, "see", "(III)I"⟩
abbrev cX4_forget : ByteArray := prog_6_method_57_code
def yX4_forget : MethodName := ⟨RX4, "forget", "(I)I"⟩
abbrev cX4_isAsSeen : ByteArray := prog_6_method_58_code
def yX4_isAsSeen : MethodName := ⟨RX4, "isAsSeen", "(II)Z"⟩
abbrev cX4_numbersAt : ByteArray := prog_6_method_59_code
def yX4_numbersAt : MethodName := ⟨RX4, "numbersAt", "(III)I"⟩
abbrev cX4_kinds : ByteArray := prog_6_method_60_code
def yX4_kinds : MethodName := ⟨RX4, "kinds", "(I)I"⟩
abbrev cX4_losses : ByteArray := prog_6_method_61_code
def yX4_losses : MethodName := ⟨RX4, "losses", "(I)I"⟩
abbrev cX4_worstAt : ByteArray := prog_6_method_62_code
def yX4_worstAt : MethodName := ⟨RX4, "worstAt", "(II)I"⟩
abbrev cX4_ask : ByteArray := prog_6_method_63_code
def yX4_ask : MethodName := ⟨RX4, "ask", "(II)I"⟩
abbrev cX4_drift : ByteArray := prog_6_method_64_code
def yX4_drift : MethodName := ⟨RX4, "drift", "(III)I"⟩
abbrev cX4_keep : ByteArray := prog_6_method_65_code
def yX4_keep : MethodName := ⟨RX4, "keep", "(I)I"⟩
abbrev cX4_back : ByteArray := prog_6_method_66_code
def yX4_back : MethodName := ⟨RX4, "back", "(I)I"⟩
abbrev cX4_sheet : ByteArray := prog_6_method_67_code
def yX4_sheet : MethodName := ⟨RX4, "sheet", "(III)I"⟩
abbrev cX4_lay : ByteArray := prog_6_method_68_code
def yX4_lay : MethodName := ⟨RX4, "lay", "(III)I"⟩
abbrev cX4_read : ByteArray := prog_6_method_69_code
def yX4_read : MethodName := ⟨RX4, "read", "(IIII)I"⟩
abbrev cX4_torn : ByteArray := prog_6_method_70_code
def yX4_torn : MethodName := ⟨RX4, "torn", "()I"⟩
abbrev cX4_count : ByteArray := prog_6_method_71_code
def yX4_count : MethodName := ⟨RX4, "count", "(I)I"⟩
def RJ6 : String := "java/lang/Integer"
def TJ6 : u_T := fun k => match k with
  | _ => ("", "", "", false)
def tyJ6 : Nat → FieldType := fun k => match k with
  | _ => .int
abbrev wsJ60 : List Cond := u_ws RJ6 TJ6 0
theorem nmJ6 : ∀ a, a < 0 → ∀ b, b < 0 → a ≠ b → (TJ6 a).2.1 ≠ (TJ6 b).2.1 := by decide +kernel
theorem tyJ6_ok : ∀ k, k < 0 → parseFieldDescriptor (TJ6 k).2.2.1 = some (tyJ6 k) := by decide +kernel
abbrev cJ6_bitCount_0f7a4 : ByteArray := prog_7_method_49_code
def yJ6_bitCount_0f7a4 : MethodName := ⟨RJ6, "bitCount", "(I)I"⟩
def RJ9 : String := "java/lang/Math"
def TJ9 : u_T := fun k => match k with
  | _ => ("", "", "", false)
def tyJ9 : Nat → FieldType := fun k => match k with
  | _ => .int
abbrev wsJ90 : List Cond := u_ws RJ9 TJ9 0
theorem nmJ9 : ∀ a, a < 0 → ∀ b, b < 0 → a ≠ b → (TJ9 a).2.1 ≠ (TJ9 b).2.1 := by decide +kernel
theorem tyJ9_ok : ∀ k, k < 0 → parseFieldDescriptor (TJ9 k).2.2.1 = some (tyJ9 k) := by decide +kernel
abbrev cJ9_max_7cf53 : ByteArray := prog_8_method_65_code
def yJ9_max_7cf53 : MethodName := ⟨RJ9, "max", "(II)I"⟩
abbrev cJ9_min_7cf53 : ByteArray := prog_8_method_69_code
def yJ9_min_7cf53 : MethodName := ⟨RJ9, "min", "(II)I"⟩
def RJ0 : String := "java/lang/String"
def TJ0 : u_T := fun k => match k with
  | _ => ("", "", "", false)
def tyJ0 : Nat → FieldType := fun k => match k with
  | _ => .int
abbrev wsJ00 : List Cond := u_ws RJ0 TJ0 0
theorem nmJ0 : ∀ a, a < 0 → ∀ b, b < 0 → a ≠ b → (TJ0 a).2.1 ≠ (TJ0 b).2.1 := by decide +kernel
theorem tyJ0_ok : ∀ k, k < 0 → parseFieldDescriptor (TJ0 k).2.2.1 = some (tyJ0 k) := by decide +kernel
abbrev cJ0_length_8abf5 : ByteArray := prog_9_method_54_code
def yJ0_length_8abf5 : MethodName := ⟨RJ0, "length", "()I"⟩
abbrev cJ0_charAt_5068e : ByteArray := prog_9_method_56_code
def yJ0_charAt_5068e : MethodName := ⟨RJ0, "charAt", "(I)C"⟩
abbrev cJ0_coder_7d493 : ByteArray := prog_9_method_152_code
def yJ0_coder_7d493 : MethodName := ⟨RJ0, "coder", "()B"⟩
abbrev cJ0_isLatin1_aae02 : ByteArray := prog_9_method_154_code
def yJ0_isLatin1_aae02 : MethodName := ⟨RJ0, "isLatin1", "()Z"⟩
abbrev cJ0_checkIndex_df160 : ByteArray := prog_9_method_155_code
def yJ0_checkIndex_df160 : MethodName := ⟨RJ0, "checkIndex", "(II)V"⟩
def RJ1 : String := "java/lang/StringLatin1"
def TJ1 : u_T := fun k => match k with
  | _ => ("", "", "", false)
def tyJ1 : Nat → FieldType := fun k => match k with
  | _ => .int
abbrev wsJ10 : List Cond := u_ws RJ1 TJ1 0
theorem nmJ1 : ∀ a, a < 0 → ∀ b, b < 0 → a ≠ b → (TJ1 a).2.1 ≠ (TJ1 b).2.1 := by decide +kernel
theorem tyJ1_ok : ∀ k, k < 0 → parseFieldDescriptor (TJ1 k).2.2.1 = some (tyJ1 k) := by decide +kernel
abbrev cJ1_charAt_3b067 : ByteArray := prog_10_method_2_code
def yJ1_charAt_3b067 : MethodName := ⟨RJ1, "charAt", "([BI)C"⟩
def RJ2 : String := "java/lang/StringUTF16"
def TJ2 : u_T := fun k => match k with
  | _ => ("", "", "", false)
def tyJ2 : Nat → FieldType := fun k => match k with
  | _ => .int
abbrev wsJ20 : List Cond := u_ws RJ2 TJ2 0
theorem nmJ2 : ∀ a, a < 0 → ∀ b, b < 0 → a ≠ b → (TJ2 a).2.1 ≠ (TJ2 b).2.1 := by decide +kernel
theorem tyJ2_ok : ∀ k, k < 0 → parseFieldDescriptor (TJ2 k).2.2.1 = some (tyJ2 k) := by decide +kernel
abbrev cJ2_getChar_3b067 : ByteArray := prog_11_method_5_code
def yJ2_getChar_3b067 : MethodName := ⟨RJ2, "getChar", "([BI)C"⟩
abbrev cJ2_length_9d52b : ByteArray := prog_11_method_6_code
def yJ2_length_9d52b : MethodName := ⟨RJ2, "length", "([B)I"⟩
abbrev cJ2_charAt_3b067 : ByteArray := prog_11_method_83_code
def yJ2_charAt_3b067 : MethodName := ⟨RJ2, "charAt", "([BI)C"⟩
abbrev cJ2_checkIndex_2214a : ByteArray := prog_11_method_91_code
def yJ2_checkIndex_2214a : MethodName := ⟨RJ2, "checkIndex", "(I[B)V"⟩
def RJ3 : String := "jdk/internal/util/Preconditions"
def TJ3 : u_T := fun k => match k with
  | _ => ("", "", "", false)
def tyJ3 : Nat → FieldType := fun k => match k with
  | _ => .int
abbrev wsJ30 : List Cond := u_ws RJ3 TJ3 0
theorem nmJ3 : ∀ a, a < 0 → ∀ b, b < 0 → a ≠ b → (TJ3 a).2.1 ≠ (TJ3 b).2.1 := by decide +kernel
theorem tyJ3_ok : ∀ k, k < 0 → parseFieldDescriptor (TJ3 k).2.2.1 = some (tyJ3 k) := by decide +kernel
abbrev cJ3_checkIndex_8e157 : ByteArray := prog_12_method_11_code
def yJ3_checkIndex_8e157 : MethodName := ⟨RJ3, "checkIndex", "(IILjava/util/function/BiFunction;)I"⟩
def RL : String := "FlyWheelsLaw"
abbrev cL_law : ByteArray := code
def yL_law : MethodName := ⟨RL, "law", "([I)Z"⟩
abbrev vwCl : List vw_C := [(RX0, TX0, 13), (RX1, TX1, 4), (RX2, TX2, 8), (RX3, TX3, 14), (RX4, TX4, 26)]
end
section
theorem dX0_init_0 : decode cX0_init 0 = .ok (.aload_n 0, 1) := by decide +kernel
theorem dX0_init_1 : decode cX0_init 1 = .ok (.invokespecial 3, 3) := by decide +kernel
theorem dX0_init_4 : decode cX0_init 4 = .ok (.aload_n 0, 1) := by decide +kernel
theorem dX0_init_5 : decode cX0_init 5 = .ok (.iconst 5, 1) := by decide +kernel
theorem dX0_init_6 : decode cX0_init 6 = .ok (.putfield 9, 3) := by decide +kernel
theorem dX0_init_9 : decode cX0_init 9 = .ok (.aload_n 0, 1) := by decide +kernel
theorem dX0_init_10 : decode cX0_init 10 = .ok (.iconst 0, 1) := by decide +kernel
theorem dX0_init_11 : decode cX0_init 11 = .ok (.putfield 15, 3) := by decide +kernel
theorem dX0_init_14 : decode cX0_init 14 = .ok (.aload_n 0, 1) := by decide +kernel
theorem dX0_init_15 : decode cX0_init 15 = .ok (.iconst 0, 1) := by decide +kernel
theorem dX0_init_16 : decode cX0_init 16 = .ok (.putfield 18, 3) := by decide +kernel
theorem dX0_init_19 : decode cX0_init 19 = .ok (.aload_n 0, 1) := by decide +kernel
theorem dX0_init_20 : decode cX0_init 20 = .ok (.iconst 4, 1) := by decide +kernel
theorem dX0_init_21 : decode cX0_init 21 = .ok (.newarray .int, 2) := by decide +kernel
theorem dX0_init_23 : decode cX0_init 23 = .ok (.putfield 21, 3) := by decide +kernel
theorem dX0_init_26 : decode cX0_init 26 = .ok (.aload_n 0, 1) := by decide +kernel
theorem dX0_init_27 : decode cX0_init 27 = .ok (.iconst 4, 1) := by decide +kernel
theorem dX0_init_28 : decode cX0_init 28 = .ok (.newarray .int, 2) := by decide +kernel
theorem dX0_init_30 : decode cX0_init 30 = .ok (.putfield 25, 3) := by decide +kernel
theorem dX0_init_33 : decode cX0_init 33 = .ok (.aload_n 0, 1) := by decide +kernel
theorem dX0_init_34 : decode cX0_init 34 = .ok (.iconst 4, 1) := by decide +kernel
theorem dX0_init_35 : decode cX0_init 35 = .ok (.newarray .int, 2) := by decide +kernel
theorem dX0_init_37 : decode cX0_init 37 = .ok (.putfield 28, 3) := by decide +kernel
theorem dX0_init_40 : decode cX0_init 40 = .ok (.aload_n 0, 1) := by decide +kernel
theorem dX0_init_41 : decode cX0_init 41 = .ok (.iconst 4, 1) := by decide +kernel
theorem dX0_init_42 : decode cX0_init 42 = .ok (.newarray .int, 2) := by decide +kernel
theorem dX0_init_44 : decode cX0_init 44 = .ok (.putfield 31, 3) := by decide +kernel
theorem dX0_init_47 : decode cX0_init 47 = .ok (.aload_n 0, 1) := by decide +kernel
theorem dX0_init_48 : decode cX0_init 48 = .ok (.iconst 0, 1) := by decide +kernel
theorem dX0_init_49 : decode cX0_init 49 = .ok (.putfield 34, 3) := by decide +kernel
theorem dX0_init_52 : decode cX0_init 52 = .ok (.aload_n 0, 1) := by decide +kernel
theorem dX0_init_53 : decode cX0_init 53 = .ok (.bipush 16, 2) := by decide +kernel
theorem dX0_init_55 : decode cX0_init 55 = .ok (.newarray .int, 2) := by decide +kernel
theorem dX0_init_57 : decode cX0_init 57 = .ok (.putfield 37, 3) := by decide +kernel
theorem dX0_init_60 : decode cX0_init 60 = .ok (.aload_n 0, 1) := by decide +kernel
theorem dX0_init_61 : decode cX0_init 61 = .ok (.iconst 0, 1) := by decide +kernel
theorem dX0_init_62 : decode cX0_init 62 = .ok (.putfield 40, 3) := by decide +kernel
theorem dX0_init_65 : decode cX0_init 65 = .ok (.aload_n 0, 1) := by decide +kernel
theorem dX0_init_66 : decode cX0_init 66 = .ok (.iconst 0, 1) := by decide +kernel
theorem dX0_init_67 : decode cX0_init 67 = .ok (.putfield 43, 3) := by decide +kernel
theorem dX0_init_70 : decode cX0_init 70 = .ok (.aload_n 0, 1) := by decide +kernel
theorem dX0_init_71 : decode cX0_init 71 = .ok (.iconst 0, 1) := by decide +kernel
theorem dX0_init_72 : decode cX0_init 72 = .ok (.putfield 46, 3) := by decide +kernel
theorem dX0_init_75 : decode cX0_init 75 = .ok (.aload_n 0, 1) := by decide +kernel
theorem dX0_init_76 : decode cX0_init 76 = .ok (.iconst 0, 1) := by decide +kernel
theorem dX0_init_77 : decode cX0_init 77 = .ok (.putfield 49, 3) := by decide +kernel
theorem dX0_init_80 : decode cX0_init 80 = .ok (.return_, 1) := by decide +kernel
theorem dX0_clear_0 : decode cX0_clear 0 = .ok (.aload_n 0, 1) := by decide +kernel
theorem dX0_clear_1 : decode cX0_clear 1 = .ok (.iconst 5, 1) := by decide +kernel
theorem dX0_clear_2 : decode cX0_clear 2 = .ok (.putfield 9, 3) := by decide +kernel
theorem dX0_clear_5 : decode cX0_clear 5 = .ok (.aload_n 0, 1) := by decide +kernel
theorem dX0_clear_6 : decode cX0_clear 6 = .ok (.iconst 0, 1) := by decide +kernel
theorem dX0_clear_7 : decode cX0_clear 7 = .ok (.putfield 15, 3) := by decide +kernel
theorem dX0_clear_10 : decode cX0_clear 10 = .ok (.aload_n 0, 1) := by decide +kernel
theorem dX0_clear_11 : decode cX0_clear 11 = .ok (.iconst 0, 1) := by decide +kernel
theorem dX0_clear_12 : decode cX0_clear 12 = .ok (.putfield 18, 3) := by decide +kernel
theorem dX0_clear_15 : decode cX0_clear 15 = .ok (.aload_n 0, 1) := by decide +kernel
theorem dX0_clear_16 : decode cX0_clear 16 = .ok (.iconst 0, 1) := by decide +kernel
theorem dX0_clear_17 : decode cX0_clear 17 = .ok (.putfield 34, 3) := by decide +kernel
theorem dX0_clear_20 : decode cX0_clear 20 = .ok (.aload_n 0, 1) := by decide +kernel
theorem dX0_clear_21 : decode cX0_clear 21 = .ok (.iconst 0, 1) := by decide +kernel
theorem dX0_clear_22 : decode cX0_clear 22 = .ok (.putfield 40, 3) := by decide +kernel
theorem dX0_clear_25 : decode cX0_clear 25 = .ok (.aload_n 0, 1) := by decide +kernel
theorem dX0_clear_26 : decode cX0_clear 26 = .ok (.invokevirtual 52, 3) := by decide +kernel
theorem dX0_clear_29 : decode cX0_clear 29 = .ok (.return_, 1) := by decide +kernel
theorem dX0_clearSums_0 : decode cX0_clearSums 0 = .ok (.aload_n 0, 1) := by decide +kernel
theorem dX0_clearSums_1 : decode cX0_clearSums 1 = .ok (.iconst 0, 1) := by decide +kernel
theorem dX0_clearSums_2 : decode cX0_clearSums 2 = .ok (.putfield 43, 3) := by decide +kernel
theorem dX0_clearSums_5 : decode cX0_clearSums 5 = .ok (.aload_n 0, 1) := by decide +kernel
theorem dX0_clearSums_6 : decode cX0_clearSums 6 = .ok (.iconst 0, 1) := by decide +kernel
theorem dX0_clearSums_7 : decode cX0_clearSums 7 = .ok (.putfield 46, 3) := by decide +kernel
theorem dX0_clearSums_10 : decode cX0_clearSums 10 = .ok (.aload_n 0, 1) := by decide +kernel
theorem dX0_clearSums_11 : decode cX0_clearSums 11 = .ok (.iconst 0, 1) := by decide +kernel
theorem dX0_clearSums_12 : decode cX0_clearSums 12 = .ok (.putfield 49, 3) := by decide +kernel
theorem dX0_clearSums_15 : decode cX0_clearSums 15 = .ok (.return_, 1) := by decide +kernel
theorem dX0_become_0 : decode cX0_become 0 = .ok (.aload_n 0, 1) := by decide +kernel
theorem dX0_become_1 : decode cX0_become 1 = .ok (.aload_n 1, 1) := by decide +kernel
theorem dX0_become_2 : decode cX0_become 2 = .ok (.getfield 9, 3) := by decide +kernel
theorem dX0_become_5 : decode cX0_become 5 = .ok (.putfield 9, 3) := by decide +kernel
theorem dX0_become_8 : decode cX0_become 8 = .ok (.aload_n 0, 1) := by decide +kernel
theorem dX0_become_9 : decode cX0_become 9 = .ok (.aload_n 1, 1) := by decide +kernel
theorem dX0_become_10 : decode cX0_become 10 = .ok (.getfield 15, 3) := by decide +kernel
theorem dX0_become_13 : decode cX0_become 13 = .ok (.putfield 15, 3) := by decide +kernel
theorem dX0_become_16 : decode cX0_become 16 = .ok (.aload_n 0, 1) := by decide +kernel
theorem dX0_become_17 : decode cX0_become 17 = .ok (.aload_n 1, 1) := by decide +kernel
theorem dX0_become_18 : decode cX0_become 18 = .ok (.getfield 18, 3) := by decide +kernel
theorem dX0_become_21 : decode cX0_become 21 = .ok (.putfield 18, 3) := by decide +kernel
theorem dX0_become_24 : decode cX0_become 24 = .ok (.iconst 0, 1) := by decide +kernel
theorem dX0_become_25 : decode cX0_become 25 = .ok (.istore_n 2, 1) := by decide +kernel
theorem dX0_become_26 : decode cX0_become 26 = .ok (.iload_n 2, 1) := by decide +kernel
theorem dX0_become_27 : decode cX0_become 27 = .ok (.iconst 4, 1) := by decide +kernel
theorem dX0_become_28 : decode cX0_become 28 = .ok (.if_icmp .ge 57, 3) := by decide +kernel
theorem dX0_become_31 : decode cX0_become 31 = .ok (.aload_n 0, 1) := by decide +kernel
theorem dX0_become_32 : decode cX0_become 32 = .ok (.getfield 21, 3) := by decide +kernel
theorem dX0_become_35 : decode cX0_become 35 = .ok (.iload_n 2, 1) := by decide +kernel
theorem dX0_become_36 : decode cX0_become 36 = .ok (.aload_n 1, 1) := by decide +kernel
theorem dX0_become_37 : decode cX0_become 37 = .ok (.getfield 21, 3) := by decide +kernel
theorem dX0_become_40 : decode cX0_become 40 = .ok (.iload_n 2, 1) := by decide +kernel
theorem dX0_become_41 : decode cX0_become 41 = .ok (.iaload, 1) := by decide +kernel
theorem dX0_become_42 : decode cX0_become 42 = .ok (.iastore, 1) := by decide +kernel
theorem dX0_become_43 : decode cX0_become 43 = .ok (.aload_n 0, 1) := by decide +kernel
theorem dX0_become_44 : decode cX0_become 44 = .ok (.getfield 25, 3) := by decide +kernel
theorem dX0_become_47 : decode cX0_become 47 = .ok (.iload_n 2, 1) := by decide +kernel
theorem dX0_become_48 : decode cX0_become 48 = .ok (.aload_n 1, 1) := by decide +kernel
theorem dX0_become_49 : decode cX0_become 49 = .ok (.getfield 25, 3) := by decide +kernel
theorem dX0_become_52 : decode cX0_become 52 = .ok (.iload_n 2, 1) := by decide +kernel
theorem dX0_become_53 : decode cX0_become 53 = .ok (.iaload, 1) := by decide +kernel
theorem dX0_become_54 : decode cX0_become 54 = .ok (.iastore, 1) := by decide +kernel
theorem dX0_become_55 : decode cX0_become 55 = .ok (.aload_n 0, 1) := by decide +kernel
theorem dX0_become_56 : decode cX0_become 56 = .ok (.getfield 28, 3) := by decide +kernel
theorem dX0_become_59 : decode cX0_become 59 = .ok (.iload_n 2, 1) := by decide +kernel
theorem dX0_become_60 : decode cX0_become 60 = .ok (.aload_n 1, 1) := by decide +kernel
theorem dX0_become_61 : decode cX0_become 61 = .ok (.getfield 28, 3) := by decide +kernel
theorem dX0_become_64 : decode cX0_become 64 = .ok (.iload_n 2, 1) := by decide +kernel
theorem dX0_become_65 : decode cX0_become 65 = .ok (.iaload, 1) := by decide +kernel
theorem dX0_become_66 : decode cX0_become 66 = .ok (.iastore, 1) := by decide +kernel
theorem dX0_become_67 : decode cX0_become 67 = .ok (.aload_n 0, 1) := by decide +kernel
theorem dX0_become_68 : decode cX0_become 68 = .ok (.getfield 31, 3) := by decide +kernel
theorem dX0_become_71 : decode cX0_become 71 = .ok (.iload_n 2, 1) := by decide +kernel
theorem dX0_become_72 : decode cX0_become 72 = .ok (.aload_n 1, 1) := by decide +kernel
theorem dX0_become_73 : decode cX0_become 73 = .ok (.getfield 31, 3) := by decide +kernel
theorem dX0_become_76 : decode cX0_become 76 = .ok (.iload_n 2, 1) := by decide +kernel
theorem dX0_become_77 : decode cX0_become 77 = .ok (.iaload, 1) := by decide +kernel
theorem dX0_become_78 : decode cX0_become 78 = .ok (.iastore, 1) := by decide +kernel
theorem dX0_become_79 : decode cX0_become 79 = .ok (.iinc 2 1, 3) := by decide +kernel
theorem dX0_become_82 : decode cX0_become 82 = .ok (.goto (-56), 3) := by decide +kernel
theorem dX0_become_85 : decode cX0_become 85 = .ok (.aload_n 0, 1) := by decide +kernel
theorem dX0_become_86 : decode cX0_become 86 = .ok (.aload_n 1, 1) := by decide +kernel
theorem dX0_become_87 : decode cX0_become 87 = .ok (.getfield 34, 3) := by decide +kernel
theorem dX0_become_90 : decode cX0_become 90 = .ok (.putfield 34, 3) := by decide +kernel
theorem dX0_become_93 : decode cX0_become 93 = .ok (.iconst 0, 1) := by decide +kernel
theorem dX0_become_94 : decode cX0_become 94 = .ok (.istore_n 2, 1) := by decide +kernel
theorem dX0_become_95 : decode cX0_become 95 = .ok (.iload_n 2, 1) := by decide +kernel
theorem dX0_become_96 : decode cX0_become 96 = .ok (.bipush 16, 2) := by decide +kernel
theorem dX0_become_98 : decode cX0_become 98 = .ok (.if_icmp .ge 21, 3) := by decide +kernel
theorem dX0_become_101 : decode cX0_become 101 = .ok (.aload_n 0, 1) := by decide +kernel
theorem dX0_become_102 : decode cX0_become 102 = .ok (.getfield 37, 3) := by decide +kernel
theorem dX0_become_105 : decode cX0_become 105 = .ok (.iload_n 2, 1) := by decide +kernel
theorem dX0_become_106 : decode cX0_become 106 = .ok (.aload_n 1, 1) := by decide +kernel
theorem dX0_become_107 : decode cX0_become 107 = .ok (.getfield 37, 3) := by decide +kernel
theorem dX0_become_110 : decode cX0_become 110 = .ok (.iload_n 2, 1) := by decide +kernel
theorem dX0_become_111 : decode cX0_become 111 = .ok (.iaload, 1) := by decide +kernel
theorem dX0_become_112 : decode cX0_become 112 = .ok (.iastore, 1) := by decide +kernel
theorem dX0_become_113 : decode cX0_become 113 = .ok (.iinc 2 1, 3) := by decide +kernel
theorem dX0_become_116 : decode cX0_become 116 = .ok (.goto (-21), 3) := by decide +kernel
theorem dX0_become_119 : decode cX0_become 119 = .ok (.aload_n 0, 1) := by decide +kernel
theorem dX0_become_120 : decode cX0_become 120 = .ok (.aload_n 1, 1) := by decide +kernel
theorem dX0_become_121 : decode cX0_become 121 = .ok (.getfield 40, 3) := by decide +kernel
theorem dX0_become_124 : decode cX0_become 124 = .ok (.putfield 40, 3) := by decide +kernel
theorem dX0_become_127 : decode cX0_become 127 = .ok (.aload_n 0, 1) := by decide +kernel
theorem dX0_become_128 : decode cX0_become 128 = .ok (.aload_n 1, 1) := by decide +kernel
theorem dX0_become_129 : decode cX0_become 129 = .ok (.getfield 43, 3) := by decide +kernel
theorem dX0_become_132 : decode cX0_become 132 = .ok (.putfield 43, 3) := by decide +kernel
theorem dX0_become_135 : decode cX0_become 135 = .ok (.aload_n 0, 1) := by decide +kernel
theorem dX0_become_136 : decode cX0_become 136 = .ok (.aload_n 1, 1) := by decide +kernel
theorem dX0_become_137 : decode cX0_become 137 = .ok (.getfield 46, 3) := by decide +kernel
theorem dX0_become_140 : decode cX0_become 140 = .ok (.putfield 46, 3) := by decide +kernel
theorem dX0_become_143 : decode cX0_become 143 = .ok (.aload_n 0, 1) := by decide +kernel
theorem dX0_become_144 : decode cX0_become 144 = .ok (.aload_n 1, 1) := by decide +kernel
theorem dX0_become_145 : decode cX0_become 145 = .ok (.getfield 49, 3) := by decide +kernel
theorem dX0_become_148 : decode cX0_become 148 = .ok (.putfield 49, 3) := by decide +kernel
theorem dX0_become_151 : decode cX0_become 151 = .ok (.return_, 1) := by decide +kernel
theorem dX0_startAs_0 : decode cX0_startAs 0 = .ok (.aload_n 0, 1) := by decide +kernel
theorem dX0_startAs_1 : decode cX0_startAs 1 = .ok (.aload_n 1, 1) := by decide +kernel
theorem dX0_startAs_2 : decode cX0_startAs 2 = .ok (.invokevirtual 55, 3) := by decide +kernel
theorem dX0_startAs_5 : decode cX0_startAs 5 = .ok (.aload_n 0, 1) := by decide +kernel
theorem dX0_startAs_6 : decode cX0_startAs 6 = .ok (.invokevirtual 52, 3) := by decide +kernel
theorem dX0_startAs_9 : decode cX0_startAs 9 = .ok (.return_, 1) := by decide +kernel
theorem dX0_hasWheel_0 : decode cX0_hasWheel 0 = .ok (.iload_n 1, 1) := by decide +kernel
theorem dX0_hasWheel_1 : decode cX0_hasWheel 1 = .ok (.ifCond .lt 15, 3) := by decide +kernel
theorem dX0_hasWheel_4 : decode cX0_hasWheel 4 = .ok (.iload_n 1, 1) := by decide +kernel
theorem dX0_hasWheel_5 : decode cX0_hasWheel 5 = .ok (.aload_n 0, 1) := by decide +kernel
theorem dX0_hasWheel_6 : decode cX0_hasWheel 6 = .ok (.getfield 18, 3) := by decide +kernel
theorem dX0_hasWheel_9 : decode cX0_hasWheel 9 = .ok (.if_icmp .ge 7, 3) := by decide +kernel
theorem dX0_hasWheel_12 : decode cX0_hasWheel 12 = .ok (.iconst 1, 1) := by decide +kernel
theorem dX0_hasWheel_13 : decode cX0_hasWheel 13 = .ok (.goto 4, 3) := by decide +kernel
theorem dX0_hasWheel_16 : decode cX0_hasWheel 16 = .ok (.iconst 0, 1) := by decide +kernel
theorem dX0_hasWheel_17 : decode cX0_hasWheel 17 = .ok (.ireturn, 1) := by decide +kernel
theorem dX0_hasAct_0 : decode cX0_hasAct 0 = .ok (.iload_n 1, 1) := by decide +kernel
theorem dX0_hasAct_1 : decode cX0_hasAct 1 = .ok (.ifCond .lt 15, 3) := by decide +kernel
theorem dX0_hasAct_4 : decode cX0_hasAct 4 = .ok (.iload_n 1, 1) := by decide +kernel
theorem dX0_hasAct_5 : decode cX0_hasAct 5 = .ok (.aload_n 0, 1) := by decide +kernel
theorem dX0_hasAct_6 : decode cX0_hasAct 6 = .ok (.getfield 34, 3) := by decide +kernel
theorem dX0_hasAct_9 : decode cX0_hasAct 9 = .ok (.if_icmp .ge 7, 3) := by decide +kernel
theorem dX0_hasAct_12 : decode cX0_hasAct 12 = .ok (.iconst 1, 1) := by decide +kernel
theorem dX0_hasAct_13 : decode cX0_hasAct 13 = .ok (.goto 4, 3) := by decide +kernel
theorem dX0_hasAct_16 : decode cX0_hasAct 16 = .ok (.iconst 0, 1) := by decide +kernel
theorem dX0_hasAct_17 : decode cX0_hasAct 17 = .ok (.ireturn, 1) := by decide +kernel
theorem dX0_appendWheel_0 : decode cX0_appendWheel 0 = .ok (.aload_n 0, 1) := by decide +kernel
theorem dX0_appendWheel_1 : decode cX0_appendWheel 1 = .ok (.getfield 18, 3) := by decide +kernel
theorem dX0_appendWheel_4 : decode cX0_appendWheel 4 = .ok (.iconst 4, 1) := by decide +kernel
theorem dX0_appendWheel_5 : decode cX0_appendWheel 5 = .ok (.if_icmp .lt 6, 3) := by decide +kernel
theorem dX0_appendWheel_8 : decode cX0_appendWheel 8 = .ok (.bipush (-3), 2) := by decide +kernel
theorem dX0_appendWheel_10 : decode cX0_appendWheel 10 = .ok (.ireturn, 1) := by decide +kernel
theorem dX0_appendWheel_11 : decode cX0_appendWheel 11 = .ok (.aload_n 0, 1) := by decide +kernel
theorem dX0_appendWheel_12 : decode cX0_appendWheel 12 = .ok (.getfield 21, 3) := by decide +kernel
theorem dX0_appendWheel_15 : decode cX0_appendWheel 15 = .ok (.aload_n 0, 1) := by decide +kernel
theorem dX0_appendWheel_16 : decode cX0_appendWheel 16 = .ok (.getfield 18, 3) := by decide +kernel
theorem dX0_appendWheel_19 : decode cX0_appendWheel 19 = .ok (.iload_n 1, 1) := by decide +kernel
theorem dX0_appendWheel_20 : decode cX0_appendWheel 20 = .ok (.iastore, 1) := by decide +kernel
theorem dX0_appendWheel_21 : decode cX0_appendWheel 21 = .ok (.aload_n 0, 1) := by decide +kernel
theorem dX0_appendWheel_22 : decode cX0_appendWheel 22 = .ok (.getfield 25, 3) := by decide +kernel
theorem dX0_appendWheel_25 : decode cX0_appendWheel 25 = .ok (.aload_n 0, 1) := by decide +kernel
theorem dX0_appendWheel_26 : decode cX0_appendWheel 26 = .ok (.getfield 18, 3) := by decide +kernel
theorem dX0_appendWheel_29 : decode cX0_appendWheel 29 = .ok (.iload_n 2, 1) := by decide +kernel
theorem dX0_appendWheel_30 : decode cX0_appendWheel 30 = .ok (.iastore, 1) := by decide +kernel
theorem dX0_appendWheel_31 : decode cX0_appendWheel 31 = .ok (.aload_n 0, 1) := by decide +kernel
theorem dX0_appendWheel_32 : decode cX0_appendWheel 32 = .ok (.getfield 28, 3) := by decide +kernel
theorem dX0_appendWheel_35 : decode cX0_appendWheel 35 = .ok (.aload_n 0, 1) := by decide +kernel
theorem dX0_appendWheel_36 : decode cX0_appendWheel 36 = .ok (.getfield 18, 3) := by decide +kernel
theorem dX0_appendWheel_39 : decode cX0_appendWheel 39 = .ok (.iload_n 3, 1) := by decide +kernel
theorem dX0_appendWheel_40 : decode cX0_appendWheel 40 = .ok (.iastore, 1) := by decide +kernel
theorem dX0_appendWheel_41 : decode cX0_appendWheel 41 = .ok (.aload_n 0, 1) := by decide +kernel
theorem dX0_appendWheel_42 : decode cX0_appendWheel 42 = .ok (.getfield 31, 3) := by decide +kernel
theorem dX0_appendWheel_45 : decode cX0_appendWheel 45 = .ok (.aload_n 0, 1) := by decide +kernel
theorem dX0_appendWheel_46 : decode cX0_appendWheel 46 = .ok (.getfield 18, 3) := by decide +kernel
theorem dX0_appendWheel_49 : decode cX0_appendWheel 49 = .ok (.iconst 0, 1) := by decide +kernel
theorem dX0_appendWheel_50 : decode cX0_appendWheel 50 = .ok (.iastore, 1) := by decide +kernel
theorem dX0_appendWheel_51 : decode cX0_appendWheel 51 = .ok (.aload_n 0, 1) := by decide +kernel
theorem dX0_appendWheel_52 : decode cX0_appendWheel 52 = .ok (.dup, 1) := by decide +kernel
theorem dX0_appendWheel_53 : decode cX0_appendWheel 53 = .ok (.getfield 18, 3) := by decide +kernel
theorem dX0_appendWheel_56 : decode cX0_appendWheel 56 = .ok (.iconst 1, 1) := by decide +kernel
theorem dX0_appendWheel_57 : decode cX0_appendWheel 57 = .ok (.iadd, 1) := by decide +kernel
theorem dX0_appendWheel_58 : decode cX0_appendWheel 58 = .ok (.putfield 18, 3) := by decide +kernel
theorem dX0_appendWheel_61 : decode cX0_appendWheel 61 = .ok (.aload_n 0, 1) := by decide +kernel
theorem dX0_appendWheel_62 : decode cX0_appendWheel 62 = .ok (.getfield 18, 3) := by decide +kernel
theorem dX0_appendWheel_65 : decode cX0_appendWheel 65 = .ok (.ireturn, 1) := by decide +kernel
theorem dX0_appendAct_0 : decode cX0_appendAct 0 = .ok (.aload_n 0, 1) := by decide +kernel
theorem dX0_appendAct_1 : decode cX0_appendAct 1 = .ok (.getfield 34, 3) := by decide +kernel
theorem dX0_appendAct_4 : decode cX0_appendAct 4 = .ok (.bipush 16, 2) := by decide +kernel
theorem dX0_appendAct_6 : decode cX0_appendAct 6 = .ok (.if_icmp .lt 6, 3) := by decide +kernel
theorem dX0_appendAct_9 : decode cX0_appendAct 9 = .ok (.bipush (-3), 2) := by decide +kernel
theorem dX0_appendAct_11 : decode cX0_appendAct 11 = .ok (.ireturn, 1) := by decide +kernel
theorem dX0_appendAct_12 : decode cX0_appendAct 12 = .ok (.aload_n 0, 1) := by decide +kernel
theorem dX0_appendAct_13 : decode cX0_appendAct 13 = .ok (.getfield 37, 3) := by decide +kernel
theorem dX0_appendAct_16 : decode cX0_appendAct 16 = .ok (.aload_n 0, 1) := by decide +kernel
theorem dX0_appendAct_17 : decode cX0_appendAct 17 = .ok (.getfield 34, 3) := by decide +kernel
theorem dX0_appendAct_20 : decode cX0_appendAct 20 = .ok (.iload_n 1, 1) := by decide +kernel
theorem dX0_appendAct_21 : decode cX0_appendAct 21 = .ok (.iastore, 1) := by decide +kernel
theorem dX0_appendAct_22 : decode cX0_appendAct 22 = .ok (.aload_n 0, 1) := by decide +kernel
theorem dX0_appendAct_23 : decode cX0_appendAct 23 = .ok (.dup, 1) := by decide +kernel
theorem dX0_appendAct_24 : decode cX0_appendAct 24 = .ok (.getfield 34, 3) := by decide +kernel
theorem dX0_appendAct_27 : decode cX0_appendAct 27 = .ok (.iconst 1, 1) := by decide +kernel
theorem dX0_appendAct_28 : decode cX0_appendAct 28 = .ok (.iadd, 1) := by decide +kernel
theorem dX0_appendAct_29 : decode cX0_appendAct 29 = .ok (.putfield 34, 3) := by decide +kernel
theorem dX0_appendAct_32 : decode cX0_appendAct 32 = .ok (.aload_n 0, 1) := by decide +kernel
theorem dX0_appendAct_33 : decode cX0_appendAct 33 = .ok (.getfield 34, 3) := by decide +kernel
theorem dX0_appendAct_36 : decode cX0_appendAct 36 = .ok (.ireturn, 1) := by decide +kernel
theorem dX0_shaftSpeed_0 : decode cX0_shaftSpeed 0 = .ok (.aload_n 0, 1) := by decide +kernel
theorem dX0_shaftSpeed_1 : decode cX0_shaftSpeed 1 = .ok (.getfield 15, 3) := by decide +kernel
theorem dX0_shaftSpeed_4 : decode cX0_shaftSpeed 4 = .ok (.aload_n 0, 1) := by decide +kernel
theorem dX0_shaftSpeed_5 : decode cX0_shaftSpeed 5 = .ok (.getfield 9, 3) := by decide +kernel
theorem dX0_shaftSpeed_8 : decode cX0_shaftSpeed 8 = .ok (.invokestatic 59, 3) := by decide +kernel
theorem dX0_shaftSpeed_11 : decode cX0_shaftSpeed 11 = .ok (.ireturn, 1) := by decide +kernel
theorem dX0_allSwing_0 : decode cX0_allSwing 0 = .ok (.aload_n 0, 1) := by decide +kernel
theorem dX0_allSwing_1 : decode cX0_allSwing 1 = .ok (.getfield 15, 3) := by decide +kernel
theorem dX0_allSwing_4 : decode cX0_allSwing 4 = .ok (.aload_n 0, 1) := by decide +kernel
theorem dX0_allSwing_5 : decode cX0_allSwing 5 = .ok (.aload_n 0, 1) := by decide +kernel
theorem dX0_allSwing_6 : decode cX0_allSwing 6 = .ok (.getfield 31, 3) := by decide +kernel
theorem dX0_allSwing_9 : decode cX0_allSwing 9 = .ok (.invokevirtual 63, 3) := by decide +kernel
theorem dX0_allSwing_12 : decode cX0_allSwing 12 = .ok (.iadd, 1) := by decide +kernel
theorem dX0_allSwing_13 : decode cX0_allSwing 13 = .ok (.ireturn, 1) := by decide +kernel
theorem dX0_sumOfWheels_0 : decode cX0_sumOfWheels 0 = .ok (.iconst 0, 1) := by decide +kernel
theorem dX0_sumOfWheels_1 : decode cX0_sumOfWheels 1 = .ok (.istore_n 2, 1) := by decide +kernel
theorem dX0_sumOfWheels_2 : decode cX0_sumOfWheels 2 = .ok (.iconst 0, 1) := by decide +kernel
theorem dX0_sumOfWheels_3 : decode cX0_sumOfWheels 3 = .ok (.istore_n 3, 1) := by decide +kernel
theorem dX0_sumOfWheels_4 : decode cX0_sumOfWheels 4 = .ok (.iload_n 3, 1) := by decide +kernel
theorem dX0_sumOfWheels_5 : decode cX0_sumOfWheels 5 = .ok (.aload_n 0, 1) := by decide +kernel
theorem dX0_sumOfWheels_6 : decode cX0_sumOfWheels 6 = .ok (.getfield 18, 3) := by decide +kernel
theorem dX0_sumOfWheels_9 : decode cX0_sumOfWheels 9 = .ok (.if_icmp .ge 15, 3) := by decide +kernel
theorem dX0_sumOfWheels_12 : decode cX0_sumOfWheels 12 = .ok (.iload_n 2, 1) := by decide +kernel
theorem dX0_sumOfWheels_13 : decode cX0_sumOfWheels 13 = .ok (.aload_n 1, 1) := by decide +kernel
theorem dX0_sumOfWheels_14 : decode cX0_sumOfWheels 14 = .ok (.iload_n 3, 1) := by decide +kernel
theorem dX0_sumOfWheels_15 : decode cX0_sumOfWheels 15 = .ok (.iaload, 1) := by decide +kernel
theorem dX0_sumOfWheels_16 : decode cX0_sumOfWheels 16 = .ok (.iadd, 1) := by decide +kernel
theorem dX0_sumOfWheels_17 : decode cX0_sumOfWheels 17 = .ok (.istore_n 2, 1) := by decide +kernel
theorem dX0_sumOfWheels_18 : decode cX0_sumOfWheels 18 = .ok (.iinc 3 1, 3) := by decide +kernel
theorem dX0_sumOfWheels_21 : decode cX0_sumOfWheels 21 = .ok (.goto (-17), 3) := by decide +kernel
theorem dX0_sumOfWheels_24 : decode cX0_sumOfWheels 24 = .ok (.iload_n 2, 1) := by decide +kernel
theorem dX0_sumOfWheels_25 : decode cX0_sumOfWheels 25 = .ok (.ireturn, 1) := by decide +kernel
theorem dX0_swingsAs_0 : decode cX0_swingsAs 0 = .ok (.aload_n 0, 1) := by decide +kernel
theorem dX0_swingsAs_1 : decode cX0_swingsAs 1 = .ok (.getfield 15, 3) := by decide +kernel
theorem dX0_swingsAs_4 : decode cX0_swingsAs 4 = .ok (.aload_n 1, 1) := by decide +kernel
theorem dX0_swingsAs_5 : decode cX0_swingsAs 5 = .ok (.getfield 15, 3) := by decide +kernel
theorem dX0_swingsAs_8 : decode cX0_swingsAs 8 = .ok (.if_icmp .ne 14, 3) := by decide +kernel
theorem dX0_swingsAs_11 : decode cX0_swingsAs 11 = .ok (.aload_n 0, 1) := by decide +kernel
theorem dX0_swingsAs_12 : decode cX0_swingsAs 12 = .ok (.getfield 18, 3) := by decide +kernel
theorem dX0_swingsAs_15 : decode cX0_swingsAs 15 = .ok (.aload_n 1, 1) := by decide +kernel
theorem dX0_swingsAs_16 : decode cX0_swingsAs 16 = .ok (.getfield 18, 3) := by decide +kernel
theorem dX0_swingsAs_19 : decode cX0_swingsAs 19 = .ok (.if_icmp .eq 5, 3) := by decide +kernel
theorem dX0_swingsAs_22 : decode cX0_swingsAs 22 = .ok (.iconst 0, 1) := by decide +kernel
theorem dX0_swingsAs_23 : decode cX0_swingsAs 23 = .ok (.ireturn, 1) := by decide +kernel
theorem dX0_swingsAs_24 : decode cX0_swingsAs 24 = .ok (.iconst 0, 1) := by decide +kernel
theorem dX0_swingsAs_25 : decode cX0_swingsAs 25 = .ok (.istore_n 2, 1) := by decide +kernel
theorem dX0_swingsAs_26 : decode cX0_swingsAs 26 = .ok (.iload_n 2, 1) := by decide +kernel
theorem dX0_swingsAs_27 : decode cX0_swingsAs 27 = .ok (.aload_n 0, 1) := by decide +kernel
theorem dX0_swingsAs_28 : decode cX0_swingsAs 28 = .ok (.getfield 18, 3) := by decide +kernel
theorem dX0_swingsAs_31 : decode cX0_swingsAs 31 = .ok (.if_icmp .ge 26, 3) := by decide +kernel
theorem dX0_swingsAs_34 : decode cX0_swingsAs 34 = .ok (.aload_n 0, 1) := by decide +kernel
theorem dX0_swingsAs_35 : decode cX0_swingsAs 35 = .ok (.getfield 31, 3) := by decide +kernel
theorem dX0_swingsAs_38 : decode cX0_swingsAs 38 = .ok (.iload_n 2, 1) := by decide +kernel
theorem dX0_swingsAs_39 : decode cX0_swingsAs 39 = .ok (.iaload, 1) := by decide +kernel
theorem dX0_swingsAs_40 : decode cX0_swingsAs 40 = .ok (.aload_n 1, 1) := by decide +kernel
theorem dX0_swingsAs_41 : decode cX0_swingsAs 41 = .ok (.getfield 31, 3) := by decide +kernel
theorem dX0_swingsAs_44 : decode cX0_swingsAs 44 = .ok (.iload_n 2, 1) := by decide +kernel
theorem dX0_swingsAs_45 : decode cX0_swingsAs 45 = .ok (.iaload, 1) := by decide +kernel
theorem dX0_swingsAs_46 : decode cX0_swingsAs 46 = .ok (.if_icmp .eq 5, 3) := by decide +kernel
theorem dX0_swingsAs_49 : decode cX0_swingsAs 49 = .ok (.iconst 0, 1) := by decide +kernel
theorem dX0_swingsAs_50 : decode cX0_swingsAs 50 = .ok (.ireturn, 1) := by decide +kernel
theorem dX0_swingsAs_51 : decode cX0_swingsAs 51 = .ok (.iinc 2 1, 3) := by decide +kernel
theorem dX0_swingsAs_54 : decode cX0_swingsAs 54 = .ok (.goto (-28), 3) := by decide +kernel
theorem dX0_swingsAs_57 : decode cX0_swingsAs 57 = .ok (.iconst 1, 1) := by decide +kernel
theorem dX0_swingsAs_58 : decode cX0_swingsAs 58 = .ok (.ireturn, 1) := by decide +kernel
theorem dX0_dueNumber_0 : decode cX0_dueNumber 0 = .ok (.aload_n 0, 1) := by decide +kernel
theorem dX0_dueNumber_1 : decode cX0_dueNumber 1 = .ok (.getfield 34, 3) := by decide +kernel
theorem dX0_dueNumber_4 : decode cX0_dueNumber 4 = .ok (.ifCond .le 15, 3) := by decide +kernel
theorem dX0_dueNumber_7 : decode cX0_dueNumber 7 = .ok (.aload_n 0, 1) := by decide +kernel
theorem dX0_dueNumber_8 : decode cX0_dueNumber 8 = .ok (.getfield 40, 3) := by decide +kernel
theorem dX0_dueNumber_11 : decode cX0_dueNumber 11 = .ok (.aload_n 0, 1) := by decide +kernel
theorem dX0_dueNumber_12 : decode cX0_dueNumber 12 = .ok (.getfield 34, 3) := by decide +kernel
theorem dX0_dueNumber_15 : decode cX0_dueNumber 15 = .ok (.irem, 1) := by decide +kernel
theorem dX0_dueNumber_16 : decode cX0_dueNumber 16 = .ok (.goto 4, 3) := by decide +kernel
theorem dX0_dueNumber_19 : decode cX0_dueNumber 19 = .ok (.iconst 0, 1) := by decide +kernel
theorem dX0_dueNumber_20 : decode cX0_dueNumber 20 = .ok (.ireturn, 1) := by decide +kernel
theorem dX0_dueAct_0 : decode cX0_dueAct 0 = .ok (.aload_n 0, 1) := by decide +kernel
theorem dX0_dueAct_1 : decode cX0_dueAct 1 = .ok (.getfield 34, 3) := by decide +kernel
theorem dX0_dueAct_4 : decode cX0_dueAct 4 = .ok (.ifCond .le 15, 3) := by decide +kernel
theorem dX0_dueAct_7 : decode cX0_dueAct 7 = .ok (.aload_n 0, 1) := by decide +kernel
theorem dX0_dueAct_8 : decode cX0_dueAct 8 = .ok (.getfield 37, 3) := by decide +kernel
theorem dX0_dueAct_11 : decode cX0_dueAct 11 = .ok (.aload_n 0, 1) := by decide +kernel
theorem dX0_dueAct_12 : decode cX0_dueAct 12 = .ok (.invokevirtual 67, 3) := by decide +kernel
theorem dX0_dueAct_15 : decode cX0_dueAct 15 = .ok (.iaload, 1) := by decide +kernel
theorem dX0_dueAct_16 : decode cX0_dueAct 16 = .ok (.goto 4, 3) := by decide +kernel
theorem dX0_dueAct_19 : decode cX0_dueAct 19 = .ok (.iconst 0, 1) := by decide +kernel
theorem dX0_dueAct_20 : decode cX0_dueAct 20 = .ok (.ireturn, 1) := by decide +kernel
theorem dX0_neverJoin_0 : decode cX0_neverJoin 0 = .ok (.iconst 0, 1) := by decide +kernel
theorem dX0_neverJoin_1 : decode cX0_neverJoin 1 = .ok (.istore_n 2, 1) := by decide +kernel
theorem dX0_neverJoin_2 : decode cX0_neverJoin 2 = .ok (.iload_n 2, 1) := by decide +kernel
theorem dX0_neverJoin_3 : decode cX0_neverJoin 3 = .ok (.aload_n 0, 1) := by decide +kernel
theorem dX0_neverJoin_4 : decode cX0_neverJoin 4 = .ok (.getfield 34, 3) := by decide +kernel
theorem dX0_neverJoin_7 : decode cX0_neverJoin 7 = .ok (.if_icmp .ge 30, 3) := by decide +kernel
theorem dX0_neverJoin_10 : decode cX0_neverJoin 10 = .ok (.aload_n 0, 1) := by decide +kernel
theorem dX0_neverJoin_11 : decode cX0_neverJoin 11 = .ok (.getfield 37, 3) := by decide +kernel
theorem dX0_neverJoin_14 : decode cX0_neverJoin 14 = .ok (.iload_n 2, 1) := by decide +kernel
theorem dX0_neverJoin_15 : decode cX0_neverJoin 15 = .ok (.iaload, 1) := by decide +kernel
theorem dX0_neverJoin_16 : decode cX0_neverJoin 16 = .ok (.sipush 200, 3) := by decide +kernel
theorem dX0_neverJoin_19 : decode cX0_neverJoin 19 = .ok (.iload_n 1, 1) := by decide +kernel
theorem dX0_neverJoin_20 : decode cX0_neverJoin 20 = .ok (.iadd, 1) := by decide +kernel
theorem dX0_neverJoin_21 : decode cX0_neverJoin 21 = .ok (.if_icmp .ne 10, 3) := by decide +kernel
theorem dX0_neverJoin_24 : decode cX0_neverJoin 24 = .ok (.aload_n 0, 1) := by decide +kernel
theorem dX0_neverJoin_25 : decode cX0_neverJoin 25 = .ok (.getfield 37, 3) := by decide +kernel
theorem dX0_neverJoin_28 : decode cX0_neverJoin 28 = .ok (.iload_n 2, 1) := by decide +kernel
theorem dX0_neverJoin_29 : decode cX0_neverJoin 29 = .ok (.iconst 0, 1) := by decide +kernel
theorem dX0_neverJoin_30 : decode cX0_neverJoin 30 = .ok (.iastore, 1) := by decide +kernel
theorem dX0_neverJoin_31 : decode cX0_neverJoin 31 = .ok (.iinc 2 1, 3) := by decide +kernel
theorem dX0_neverJoin_34 : decode cX0_neverJoin 34 = .ok (.goto (-32), 3) := by decide +kernel
theorem dX0_neverJoin_37 : decode cX0_neverJoin 37 = .ok (.return_, 1) := by decide +kernel
theorem dX0_perform_0 : decode cX0_perform 0 = .ok (.iload_n 1, 1) := by decide +kernel
theorem dX0_perform_1 : decode cX0_perform 1 = .ok (.bipush 100, 2) := by decide +kernel
theorem dX0_perform_3 : decode cX0_perform 3 = .ok (.if_icmp .ge 16, 3) := by decide +kernel
theorem dX0_perform_6 : decode cX0_perform 6 = .ok (.aload_n 0, 1) := by decide +kernel
theorem dX0_perform_7 : decode cX0_perform 7 = .ok (.dup, 1) := by decide +kernel
theorem dX0_perform_8 : decode cX0_perform 8 = .ok (.getfield 15, 3) := by decide +kernel
theorem dX0_perform_11 : decode cX0_perform 11 = .ok (.iload_n 1, 1) := by decide +kernel
theorem dX0_perform_12 : decode cX0_perform 12 = .ok (.iadd, 1) := by decide +kernel
theorem dX0_perform_13 : decode cX0_perform 13 = .ok (.putfield 15, 3) := by decide +kernel
theorem dX0_perform_16 : decode cX0_perform 16 = .ok (.goto 42, 3) := by decide +kernel
theorem dX0_perform_19 : decode cX0_perform 19 = .ok (.iload_n 1, 1) := by decide +kernel
theorem dX0_perform_20 : decode cX0_perform 20 = .ok (.sipush 200, 3) := by decide +kernel
theorem dX0_perform_23 : decode cX0_perform 23 = .ok (.if_icmp .ge 14, 3) := by decide +kernel
theorem dX0_perform_26 : decode cX0_perform 26 = .ok (.aload_n 0, 1) := by decide +kernel
theorem dX0_perform_27 : decode cX0_perform 27 = .ok (.iload_n 1, 1) := by decide +kernel
theorem dX0_perform_28 : decode cX0_perform 28 = .ok (.bipush 100, 2) := by decide +kernel
theorem dX0_perform_30 : decode cX0_perform 30 = .ok (.isub, 1) := by decide +kernel
theorem dX0_perform_31 : decode cX0_perform 31 = .ok (.invokevirtual 71, 3) := by decide +kernel
theorem dX0_perform_34 : decode cX0_perform 34 = .ok (.goto 24, 3) := by decide +kernel
theorem dX0_perform_37 : decode cX0_perform 37 = .ok (.aload_n 0, 1) := by decide +kernel
theorem dX0_perform_38 : decode cX0_perform 38 = .ok (.iload_n 1, 1) := by decide +kernel
theorem dX0_perform_39 : decode cX0_perform 39 = .ok (.sipush 200, 3) := by decide +kernel
theorem dX0_perform_42 : decode cX0_perform 42 = .ok (.isub, 1) := by decide +kernel
theorem dX0_perform_43 : decode cX0_perform 43 = .ok (.invokevirtual 75, 3) := by decide +kernel
theorem dX0_perform_46 : decode cX0_perform 46 = .ok (.ifCond .eq 12, 3) := by decide +kernel
theorem dX0_perform_49 : decode cX0_perform 49 = .ok (.aload_n 0, 1) := by decide +kernel
theorem dX0_perform_50 : decode cX0_perform 50 = .ok (.iload_n 1, 1) := by decide +kernel
theorem dX0_perform_51 : decode cX0_perform 51 = .ok (.sipush 200, 3) := by decide +kernel
theorem dX0_perform_54 : decode cX0_perform 54 = .ok (.isub, 1) := by decide +kernel
theorem dX0_perform_55 : decode cX0_perform 55 = .ok (.invokevirtual 79, 3) := by decide +kernel
theorem dX0_perform_58 : decode cX0_perform 58 = .ok (.return_, 1) := by decide +kernel
theorem dX0_takeLoad_0 : decode cX0_takeLoad 0 = .ok (.iload_n 1, 1) := by decide +kernel
theorem dX0_takeLoad_1 : decode cX0_takeLoad 1 = .ok (.aload_n 0, 1) := by decide +kernel
theorem dX0_takeLoad_2 : decode cX0_takeLoad 2 = .ok (.getfield 15, 3) := by decide +kernel
theorem dX0_takeLoad_5 : decode cX0_takeLoad 5 = .ok (.invokestatic 82, 3) := by decide +kernel
theorem dX0_takeLoad_8 : decode cX0_takeLoad 8 = .ok (.istore_n 2, 1) := by decide +kernel
theorem dX0_takeLoad_9 : decode cX0_takeLoad 9 = .ok (.aload_n 0, 1) := by decide +kernel
theorem dX0_takeLoad_10 : decode cX0_takeLoad 10 = .ok (.dup, 1) := by decide +kernel
theorem dX0_takeLoad_11 : decode cX0_takeLoad 11 = .ok (.getfield 15, 3) := by decide +kernel
theorem dX0_takeLoad_14 : decode cX0_takeLoad 14 = .ok (.iload_n 2, 1) := by decide +kernel
theorem dX0_takeLoad_15 : decode cX0_takeLoad 15 = .ok (.isub, 1) := by decide +kernel
theorem dX0_takeLoad_16 : decode cX0_takeLoad 16 = .ok (.putfield 15, 3) := by decide +kernel
theorem dX0_takeLoad_19 : decode cX0_takeLoad 19 = .ok (.aload_n 0, 1) := by decide +kernel
theorem dX0_takeLoad_20 : decode cX0_takeLoad 20 = .ok (.dup, 1) := by decide +kernel
theorem dX0_takeLoad_21 : decode cX0_takeLoad 21 = .ok (.getfield 43, 3) := by decide +kernel
theorem dX0_takeLoad_24 : decode cX0_takeLoad 24 = .ok (.iload_n 2, 1) := by decide +kernel
theorem dX0_takeLoad_25 : decode cX0_takeLoad 25 = .ok (.iadd, 1) := by decide +kernel
theorem dX0_takeLoad_26 : decode cX0_takeLoad 26 = .ok (.putfield 43, 3) := by decide +kernel
theorem dX0_takeLoad_29 : decode cX0_takeLoad 29 = .ok (.aload_n 0, 1) := by decide +kernel
theorem dX0_takeLoad_30 : decode cX0_takeLoad 30 = .ok (.dup, 1) := by decide +kernel
theorem dX0_takeLoad_31 : decode cX0_takeLoad 31 = .ok (.getfield 46, 3) := by decide +kernel
theorem dX0_takeLoad_34 : decode cX0_takeLoad 34 = .ok (.iload_n 1, 1) := by decide +kernel
theorem dX0_takeLoad_35 : decode cX0_takeLoad 35 = .ok (.iload_n 2, 1) := by decide +kernel
theorem dX0_takeLoad_36 : decode cX0_takeLoad 36 = .ok (.isub, 1) := by decide +kernel
theorem dX0_takeLoad_37 : decode cX0_takeLoad 37 = .ok (.iadd, 1) := by decide +kernel
theorem dX0_takeLoad_38 : decode cX0_takeLoad 38 = .ok (.putfield 46, 3) := by decide +kernel
theorem dX0_takeLoad_41 : decode cX0_takeLoad 41 = .ok (.return_, 1) := by decide +kernel
theorem dX0_joinWheel_0 : decode cX0_joinWheel 0 = .ok (.aload_n 0, 1) := by decide +kernel
theorem dX0_joinWheel_1 : decode cX0_joinWheel 1 = .ok (.getfield 15, 3) := by decide +kernel
theorem dX0_joinWheel_4 : decode cX0_joinWheel 4 = .ok (.aload_n 0, 1) := by decide +kernel
theorem dX0_joinWheel_5 : decode cX0_joinWheel 5 = .ok (.getfield 31, 3) := by decide +kernel
theorem dX0_joinWheel_8 : decode cX0_joinWheel 8 = .ok (.iload_n 1, 1) := by decide +kernel
theorem dX0_joinWheel_9 : decode cX0_joinWheel 9 = .ok (.iaload, 1) := by decide +kernel
theorem dX0_joinWheel_10 : decode cX0_joinWheel 10 = .ok (.iadd, 1) := by decide +kernel
theorem dX0_joinWheel_11 : decode cX0_joinWheel 11 = .ok (.istore_n 2, 1) := by decide +kernel
theorem dX0_joinWheel_12 : decode cX0_joinWheel 12 = .ok (.aload_n 0, 1) := by decide +kernel
theorem dX0_joinWheel_13 : decode cX0_joinWheel 13 = .ok (.getfield 31, 3) := by decide +kernel
theorem dX0_joinWheel_16 : decode cX0_joinWheel 16 = .ok (.iload_n 1, 1) := by decide +kernel
theorem dX0_joinWheel_17 : decode cX0_joinWheel 17 = .ok (.aload_n 0, 1) := by decide +kernel
theorem dX0_joinWheel_18 : decode cX0_joinWheel 18 = .ok (.iload_n 1, 1) := by decide +kernel
theorem dX0_joinWheel_19 : decode cX0_joinWheel 19 = .ok (.invokevirtual 87, 3) := by decide +kernel
theorem dX0_joinWheel_22 : decode cX0_joinWheel 22 = .ok (.iastore, 1) := by decide +kernel
theorem dX0_joinWheel_23 : decode cX0_joinWheel 23 = .ok (.aload_n 0, 1) := by decide +kernel
theorem dX0_joinWheel_24 : decode cX0_joinWheel 24 = .ok (.iload_n 2, 1) := by decide +kernel
theorem dX0_joinWheel_25 : decode cX0_joinWheel 25 = .ok (.aload_n 0, 1) := by decide +kernel
theorem dX0_joinWheel_26 : decode cX0_joinWheel 26 = .ok (.getfield 31, 3) := by decide +kernel
theorem dX0_joinWheel_29 : decode cX0_joinWheel 29 = .ok (.iload_n 1, 1) := by decide +kernel
theorem dX0_joinWheel_30 : decode cX0_joinWheel 30 = .ok (.iaload, 1) := by decide +kernel
theorem dX0_joinWheel_31 : decode cX0_joinWheel 31 = .ok (.isub, 1) := by decide +kernel
theorem dX0_joinWheel_32 : decode cX0_joinWheel 32 = .ok (.putfield 15, 3) := by decide +kernel
theorem dX0_joinWheel_35 : decode cX0_joinWheel 35 = .ok (.return_, 1) := by decide +kernel
theorem dX0_joinedSwing_0 : decode cX0_joinedSwing 0 = .ok (.aload_n 0, 1) := by decide +kernel
theorem dX0_joinedSwing_1 : decode cX0_joinedSwing 1 = .ok (.getfield 31, 3) := by decide +kernel
theorem dX0_joinedSwing_4 : decode cX0_joinedSwing 4 = .ok (.iload_n 1, 1) := by decide +kernel
theorem dX0_joinedSwing_5 : decode cX0_joinedSwing 5 = .ok (.iaload, 1) := by decide +kernel
theorem dX0_joinedSwing_6 : decode cX0_joinedSwing 6 = .ok (.istore_n 2, 1) := by decide +kernel
theorem dX0_joinedSwing_7 : decode cX0_joinedSwing 7 = .ok (.iload_n 2, 1) := by decide +kernel
theorem dX0_joinedSwing_8 : decode cX0_joinedSwing 8 = .ok (.aload_n 0, 1) := by decide +kernel
theorem dX0_joinedSwing_9 : decode cX0_joinedSwing 9 = .ok (.getfield 15, 3) := by decide +kernel
theorem dX0_joinedSwing_12 : decode cX0_joinedSwing 12 = .ok (.iadd, 1) := by decide +kernel
theorem dX0_joinedSwing_13 : decode cX0_joinedSwing 13 = .ok (.aload_n 0, 1) := by decide +kernel
theorem dX0_joinedSwing_14 : decode cX0_joinedSwing 14 = .ok (.getfield 25, 3) := by decide +kernel
theorem dX0_joinedSwing_17 : decode cX0_joinedSwing 17 = .ok (.iload_n 1, 1) := by decide +kernel
theorem dX0_joinedSwing_18 : decode cX0_joinedSwing 18 = .ok (.iaload, 1) := by decide +kernel
theorem dX0_joinedSwing_19 : decode cX0_joinedSwing 19 = .ok (.imul, 1) := by decide +kernel
theorem dX0_joinedSwing_20 : decode cX0_joinedSwing 20 = .ok (.aload_n 0, 1) := by decide +kernel
theorem dX0_joinedSwing_21 : decode cX0_joinedSwing 21 = .ok (.getfield 25, 3) := by decide +kernel
theorem dX0_joinedSwing_24 : decode cX0_joinedSwing 24 = .ok (.iload_n 1, 1) := by decide +kernel
theorem dX0_joinedSwing_25 : decode cX0_joinedSwing 25 = .ok (.iaload, 1) := by decide +kernel
theorem dX0_joinedSwing_26 : decode cX0_joinedSwing 26 = .ok (.aload_n 0, 1) := by decide +kernel
theorem dX0_joinedSwing_27 : decode cX0_joinedSwing 27 = .ok (.getfield 9, 3) := by decide +kernel
theorem dX0_joinedSwing_30 : decode cX0_joinedSwing 30 = .ok (.iadd, 1) := by decide +kernel
theorem dX0_joinedSwing_31 : decode cX0_joinedSwing 31 = .ok (.invokestatic 59, 3) := by decide +kernel
theorem dX0_joinedSwing_34 : decode cX0_joinedSwing 34 = .ok (.istore_n 3, 1) := by decide +kernel
theorem dX0_joinedSwing_35 : decode cX0_joinedSwing 35 = .ok (.aload_n 0, 1) := by decide +kernel
theorem dX0_joinedSwing_36 : decode cX0_joinedSwing 36 = .ok (.getfield 21, 3) := by decide +kernel
theorem dX0_joinedSwing_39 : decode cX0_joinedSwing 39 = .ok (.iload_n 1, 1) := by decide +kernel
theorem dX0_joinedSwing_40 : decode cX0_joinedSwing 40 = .ok (.iaload, 1) := by decide +kernel
theorem dX0_joinedSwing_41 : decode cX0_joinedSwing 41 = .ok (.tableswitch 43 0 2 #[27, 29, 37], 27) := by decide +kernel
theorem dX0_joinedSwing_68 : decode cX0_joinedSwing 68 = .ok (.iload_n 3, 1) := by decide +kernel
theorem dX0_joinedSwing_69 : decode cX0_joinedSwing 69 = .ok (.ireturn, 1) := by decide +kernel
theorem dX0_joinedSwing_70 : decode cX0_joinedSwing 70 = .ok (.iload_n 2, 1) := by decide +kernel
theorem dX0_joinedSwing_71 : decode cX0_joinedSwing 71 = .ok (.iload_n 3, 1) := by decide +kernel
theorem dX0_joinedSwing_72 : decode cX0_joinedSwing 72 = .ok (.iload_n 2, 1) := by decide +kernel
theorem dX0_joinedSwing_73 : decode cX0_joinedSwing 73 = .ok (.isub, 1) := by decide +kernel
theorem dX0_joinedSwing_74 : decode cX0_joinedSwing 74 = .ok (.iconst 2, 1) := by decide +kernel
theorem dX0_joinedSwing_75 : decode cX0_joinedSwing 75 = .ok (.idiv, 1) := by decide +kernel
theorem dX0_joinedSwing_76 : decode cX0_joinedSwing 76 = .ok (.iadd, 1) := by decide +kernel
theorem dX0_joinedSwing_77 : decode cX0_joinedSwing 77 = .ok (.ireturn, 1) := by decide +kernel
theorem dX0_joinedSwing_78 : decode cX0_joinedSwing 78 = .ok (.iload_n 3, 1) := by decide +kernel
theorem dX0_joinedSwing_79 : decode cX0_joinedSwing 79 = .ok (.iload_n 2, 1) := by decide +kernel
theorem dX0_joinedSwing_80 : decode cX0_joinedSwing 80 = .ok (.invokestatic 91, 3) := by decide +kernel
theorem dX0_joinedSwing_83 : decode cX0_joinedSwing 83 = .ok (.ireturn, 1) := by decide +kernel
theorem dX0_joinedSwing_84 : decode cX0_joinedSwing 84 = .ok (.iload_n 3, 1) := by decide +kernel
theorem dX0_joinedSwing_85 : decode cX0_joinedSwing 85 = .ok (.iload_n 2, 1) := by decide +kernel
theorem dX0_joinedSwing_86 : decode cX0_joinedSwing 86 = .ok (.invokestatic 91, 3) := by decide +kernel
theorem dX0_joinedSwing_89 : decode cX0_joinedSwing 89 = .ok (.iload_n 2, 1) := by decide +kernel
theorem dX0_joinedSwing_90 : decode cX0_joinedSwing 90 = .ok (.bipush 20, 2) := by decide +kernel
theorem dX0_joinedSwing_92 : decode cX0_joinedSwing 92 = .ok (.iadd, 1) := by decide +kernel
theorem dX0_joinedSwing_93 : decode cX0_joinedSwing 93 = .ok (.invokestatic 82, 3) := by decide +kernel
theorem dX0_joinedSwing_96 : decode cX0_joinedSwing 96 = .ok (.ireturn, 1) := by decide +kernel
theorem dX0_passTick_0 : decode cX0_passTick 0 = .ok (.aload_n 0, 1) := by decide +kernel
theorem dX0_passTick_1 : decode cX0_passTick 1 = .ok (.aload_n 0, 1) := by decide +kernel
theorem dX0_passTick_2 : decode cX0_passTick 2 = .ok (.invokevirtual 94, 3) := by decide +kernel
theorem dX0_passTick_5 : decode cX0_passTick 5 = .ok (.invokevirtual 97, 3) := by decide +kernel
theorem dX0_passTick_8 : decode cX0_passTick 8 = .ok (.return_, 1) := by decide +kernel
theorem dX0_passTickWith_0 : decode cX0_passTickWith 0 = .ok (.aload_n 0, 1) := by decide +kernel
theorem dX0_passTickWith_1 : decode cX0_passTickWith 1 = .ok (.iload_n 1, 1) := by decide +kernel
theorem dX0_passTickWith_2 : decode cX0_passTickWith 2 = .ok (.invokevirtual 100, 3) := by decide +kernel
theorem dX0_passTickWith_5 : decode cX0_passTickWith 5 = .ok (.iconst 0, 1) := by decide +kernel
theorem dX0_passTickWith_6 : decode cX0_passTickWith 6 = .ok (.istore_n 2, 1) := by decide +kernel
theorem dX0_passTickWith_7 : decode cX0_passTickWith 7 = .ok (.iload_n 2, 1) := by decide +kernel
theorem dX0_passTickWith_8 : decode cX0_passTickWith 8 = .ok (.aload_n 0, 1) := by decide +kernel
theorem dX0_passTickWith_9 : decode cX0_passTickWith 9 = .ok (.getfield 18, 3) := by decide +kernel
theorem dX0_passTickWith_12 : decode cX0_passTickWith 12 = .ok (.if_icmp .ge 45, 3) := by decide +kernel
theorem dX0_passTickWith_15 : decode cX0_passTickWith 15 = .ok (.aload_n 0, 1) := by decide +kernel
theorem dX0_passTickWith_16 : decode cX0_passTickWith 16 = .ok (.getfield 28, 3) := by decide +kernel
theorem dX0_passTickWith_19 : decode cX0_passTickWith 19 = .ok (.iload_n 2, 1) := by decide +kernel
theorem dX0_passTickWith_20 : decode cX0_passTickWith 20 = .ok (.iaload, 1) := by decide +kernel
theorem dX0_passTickWith_21 : decode cX0_passTickWith 21 = .ok (.aload_n 0, 1) := by decide +kernel
theorem dX0_passTickWith_22 : decode cX0_passTickWith 22 = .ok (.getfield 31, 3) := by decide +kernel
theorem dX0_passTickWith_25 : decode cX0_passTickWith 25 = .ok (.iload_n 2, 1) := by decide +kernel
theorem dX0_passTickWith_26 : decode cX0_passTickWith 26 = .ok (.iaload, 1) := by decide +kernel
theorem dX0_passTickWith_27 : decode cX0_passTickWith 27 = .ok (.invokestatic 82, 3) := by decide +kernel
theorem dX0_passTickWith_30 : decode cX0_passTickWith 30 = .ok (.istore_n 3, 1) := by decide +kernel
theorem dX0_passTickWith_31 : decode cX0_passTickWith 31 = .ok (.aload_n 0, 1) := by decide +kernel
theorem dX0_passTickWith_32 : decode cX0_passTickWith 32 = .ok (.getfield 31, 3) := by decide +kernel
theorem dX0_passTickWith_35 : decode cX0_passTickWith 35 = .ok (.iload_n 2, 1) := by decide +kernel
theorem dX0_passTickWith_36 : decode cX0_passTickWith 36 = .ok (.dup2, 1) := by decide +kernel
theorem dX0_passTickWith_37 : decode cX0_passTickWith 37 = .ok (.iaload, 1) := by decide +kernel
theorem dX0_passTickWith_38 : decode cX0_passTickWith 38 = .ok (.iload_n 3, 1) := by decide +kernel
theorem dX0_passTickWith_39 : decode cX0_passTickWith 39 = .ok (.isub, 1) := by decide +kernel
theorem dX0_passTickWith_40 : decode cX0_passTickWith 40 = .ok (.iastore, 1) := by decide +kernel
theorem dX0_passTickWith_41 : decode cX0_passTickWith 41 = .ok (.aload_n 0, 1) := by decide +kernel
theorem dX0_passTickWith_42 : decode cX0_passTickWith 42 = .ok (.dup, 1) := by decide +kernel
theorem dX0_passTickWith_43 : decode cX0_passTickWith 43 = .ok (.getfield 49, 3) := by decide +kernel
theorem dX0_passTickWith_46 : decode cX0_passTickWith 46 = .ok (.iload_n 3, 1) := by decide +kernel
theorem dX0_passTickWith_47 : decode cX0_passTickWith 47 = .ok (.iadd, 1) := by decide +kernel
theorem dX0_passTickWith_48 : decode cX0_passTickWith 48 = .ok (.putfield 49, 3) := by decide +kernel
theorem dX0_passTickWith_51 : decode cX0_passTickWith 51 = .ok (.iinc 2 1, 3) := by decide +kernel
theorem dX0_passTickWith_54 : decode cX0_passTickWith 54 = .ok (.goto (-47), 3) := by decide +kernel
theorem dX0_passTickWith_57 : decode cX0_passTickWith 57 = .ok (.aload_n 0, 1) := by decide +kernel
theorem dX0_passTickWith_58 : decode cX0_passTickWith 58 = .ok (.dup, 1) := by decide +kernel
theorem dX0_passTickWith_59 : decode cX0_passTickWith 59 = .ok (.getfield 40, 3) := by decide +kernel
theorem dX0_passTickWith_62 : decode cX0_passTickWith 62 = .ok (.iconst 1, 1) := by decide +kernel
theorem dX0_passTickWith_63 : decode cX0_passTickWith 63 = .ok (.iadd, 1) := by decide +kernel
theorem dX0_passTickWith_64 : decode cX0_passTickWith 64 = .ok (.putfield 40, 3) := by decide +kernel
theorem dX0_passTickWith_67 : decode cX0_passTickWith 67 = .ok (.return_, 1) := by decide +kernel
theorem dX0_runTicks_0 : decode cX0_runTicks 0 = .ok (.iconst 0, 1) := by decide +kernel
theorem dX0_runTicks_1 : decode cX0_runTicks 1 = .ok (.istore_n 2, 1) := by decide +kernel
theorem dX0_runTicks_2 : decode cX0_runTicks 2 = .ok (.iload_n 2, 1) := by decide +kernel
theorem dX0_runTicks_3 : decode cX0_runTicks 3 = .ok (.iload_n 1, 1) := by decide +kernel
theorem dX0_runTicks_4 : decode cX0_runTicks 4 = .ok (.if_icmp .ge 13, 3) := by decide +kernel
theorem dX0_runTicks_7 : decode cX0_runTicks 7 = .ok (.aload_n 0, 1) := by decide +kernel
theorem dX0_runTicks_8 : decode cX0_runTicks 8 = .ok (.invokevirtual 103, 3) := by decide +kernel
theorem dX0_runTicks_11 : decode cX0_runTicks 11 = .ok (.iinc 2 1, 3) := by decide +kernel
theorem dX0_runTicks_14 : decode cX0_runTicks 14 = .ok (.goto (-12), 3) := by decide +kernel
theorem dX0_runTicks_17 : decode cX0_runTicks 17 = .ok (.return_, 1) := by decide +kernel
theorem dX1_init_0 : decode cX1_init 0 = .ok (.aload_n 0, 1) := by decide +kernel
theorem dX1_init_1 : decode cX1_init 1 = .ok (.invokespecial 3, 3) := by decide +kernel
theorem dX1_init_4 : decode cX1_init 4 = .ok (.aload_n 0, 1) := by decide +kernel
theorem dX1_init_5 : decode cX1_init 5 = .ok (.iconst 0, 1) := by decide +kernel
theorem dX1_init_6 : decode cX1_init 6 = .ok (.putfield 9, 3) := by decide +kernel
theorem dX1_init_9 : decode cX1_init 9 = .ok (.aload_n 0, 1) := by decide +kernel
theorem dX1_init_10 : decode cX1_init 10 = .ok (.iconst 0, 1) := by decide +kernel
theorem dX1_init_11 : decode cX1_init 11 = .ok (.putfield 15, 3) := by decide +kernel
theorem dX1_init_14 : decode cX1_init 14 = .ok (.aload_n 0, 1) := by decide +kernel
theorem dX1_init_15 : decode cX1_init 15 = .ok (.iconst 0, 1) := by decide +kernel
theorem dX1_init_16 : decode cX1_init 16 = .ok (.putfield 19, 3) := by decide +kernel
theorem dX1_init_19 : decode cX1_init 19 = .ok (.aload_n 0, 1) := by decide +kernel
theorem dX1_init_20 : decode cX1_init 20 = .ok (.bipush 40, 2) := by decide +kernel
theorem dX1_init_22 : decode cX1_init 22 = .ok (.newarray .int, 2) := by decide +kernel
theorem dX1_init_24 : decode cX1_init 24 = .ok (.putfield 22, 3) := by decide +kernel
theorem dX1_init_27 : decode cX1_init 27 = .ok (.return_, 1) := by decide +kernel
theorem dX1_renew_0 : decode cX1_renew 0 = .ok (.aload_n 0, 1) := by decide +kernel
theorem dX1_renew_1 : decode cX1_renew 1 = .ok (.iconst 1, 1) := by decide +kernel
theorem dX1_renew_2 : decode cX1_renew 2 = .ok (.putfield 9, 3) := by decide +kernel
theorem dX1_renew_5 : decode cX1_renew 5 = .ok (.aload_n 0, 1) := by decide +kernel
theorem dX1_renew_6 : decode cX1_renew 6 = .ok (.iload_n 1, 1) := by decide +kernel
theorem dX1_renew_7 : decode cX1_renew 7 = .ok (.putfield 15, 3) := by decide +kernel
theorem dX1_renew_10 : decode cX1_renew 10 = .ok (.aload_n 0, 1) := by decide +kernel
theorem dX1_renew_11 : decode cX1_renew 11 = .ok (.iload_n 2, 1) := by decide +kernel
theorem dX1_renew_12 : decode cX1_renew 12 = .ok (.putfield 19, 3) := by decide +kernel
theorem dX1_renew_15 : decode cX1_renew 15 = .ok (.iconst 0, 1) := by decide +kernel
theorem dX1_renew_16 : decode cX1_renew 16 = .ok (.istore_n 3, 1) := by decide +kernel
theorem dX1_renew_17 : decode cX1_renew 17 = .ok (.iload_n 3, 1) := by decide +kernel
theorem dX1_renew_18 : decode cX1_renew 18 = .ok (.bipush 40, 2) := by decide +kernel
theorem dX1_renew_20 : decode cX1_renew 20 = .ok (.if_icmp .ge 16, 3) := by decide +kernel
theorem dX1_renew_23 : decode cX1_renew 23 = .ok (.aload_n 0, 1) := by decide +kernel
theorem dX1_renew_24 : decode cX1_renew 24 = .ok (.getfield 22, 3) := by decide +kernel
theorem dX1_renew_27 : decode cX1_renew 27 = .ok (.iload_n 3, 1) := by decide +kernel
theorem dX1_renew_28 : decode cX1_renew 28 = .ok (.iconst 0, 1) := by decide +kernel
theorem dX1_renew_29 : decode cX1_renew 29 = .ok (.iastore, 1) := by decide +kernel
theorem dX1_renew_30 : decode cX1_renew 30 = .ok (.iinc 3 1, 3) := by decide +kernel
theorem dX1_renew_33 : decode cX1_renew 33 = .ok (.goto (-16), 3) := by decide +kernel
theorem dX1_renew_36 : decode cX1_renew 36 = .ok (.return_, 1) := by decide +kernel
theorem dX1_faultAt_0 : decode cX1_faultAt 0 = .ok (.aload_n 0, 1) := by decide +kernel
theorem dX1_faultAt_1 : decode cX1_faultAt 1 = .ok (.getfield 9, 3) := by decide +kernel
theorem dX1_faultAt_4 : decode cX1_faultAt 4 = .ok (.ifCond .ne 5, 3) := by decide +kernel
theorem dX1_faultAt_7 : decode cX1_faultAt 7 = .ok (.iconst 1, 1) := by decide +kernel
theorem dX1_faultAt_8 : decode cX1_faultAt 8 = .ok (.ireturn, 1) := by decide +kernel
theorem dX1_faultAt_9 : decode cX1_faultAt 9 = .ok (.iload_n 1, 1) := by decide +kernel
theorem dX1_faultAt_10 : decode cX1_faultAt 10 = .ok (.aload_n 0, 1) := by decide +kernel
theorem dX1_faultAt_11 : decode cX1_faultAt 11 = .ok (.getfield 15, 3) := by decide +kernel
theorem dX1_faultAt_14 : decode cX1_faultAt 14 = .ok (.if_icmp .eq 5, 3) := by decide +kernel
theorem dX1_faultAt_17 : decode cX1_faultAt 17 = .ok (.iconst 3, 1) := by decide +kernel
theorem dX1_faultAt_18 : decode cX1_faultAt 18 = .ok (.ireturn, 1) := by decide +kernel
theorem dX1_faultAt_19 : decode cX1_faultAt 19 = .ok (.iload_n 2, 1) := by decide +kernel
theorem dX1_faultAt_20 : decode cX1_faultAt 20 = .ok (.ifCond .lt 15, 3) := by decide +kernel
theorem dX1_faultAt_23 : decode cX1_faultAt 23 = .ok (.iload_n 2, 1) := by decide +kernel
theorem dX1_faultAt_24 : decode cX1_faultAt 24 = .ok (.aload_n 0, 1) := by decide +kernel
theorem dX1_faultAt_25 : decode cX1_faultAt 25 = .ok (.getfield 19, 3) := by decide +kernel
theorem dX1_faultAt_28 : decode cX1_faultAt 28 = .ok (.if_icmp .ge 7, 3) := by decide +kernel
theorem dX1_faultAt_31 : decode cX1_faultAt 31 = .ok (.iconst 0, 1) := by decide +kernel
theorem dX1_faultAt_32 : decode cX1_faultAt 32 = .ok (.goto 4, 3) := by decide +kernel
theorem dX1_faultAt_35 : decode cX1_faultAt 35 = .ok (.iconst 2, 1) := by decide +kernel
theorem dX1_faultAt_36 : decode cX1_faultAt 36 = .ok (.ireturn, 1) := by decide +kernel
theorem dX1_write_0 : decode cX1_write 0 = .ok (.aload_n 0, 1) := by decide +kernel
theorem dX1_write_1 : decode cX1_write 1 = .ok (.getfield 15, 3) := by decide +kernel
theorem dX1_write_4 : decode cX1_write 4 = .ok (.ifCond .ne 14, 3) := by decide +kernel
theorem dX1_write_7 : decode cX1_write 7 = .ok (.aload_n 0, 1) := by decide +kernel
theorem dX1_write_8 : decode cX1_write 8 = .ok (.getfield 22, 3) := by decide +kernel
theorem dX1_write_11 : decode cX1_write 11 = .ok (.iload_n 1, 1) := by decide +kernel
theorem dX1_write_12 : decode cX1_write 12 = .ok (.iload_n 2, 1) := by decide +kernel
theorem dX1_write_13 : decode cX1_write 13 = .ok (.i2b, 1) := by decide +kernel
theorem dX1_write_14 : decode cX1_write 14 = .ok (.iastore, 1) := by decide +kernel
theorem dX1_write_15 : decode cX1_write 15 = .ok (.goto 29, 3) := by decide +kernel
theorem dX1_write_18 : decode cX1_write 18 = .ok (.aload_n 0, 1) := by decide +kernel
theorem dX1_write_19 : decode cX1_write 19 = .ok (.getfield 15, 3) := by decide +kernel
theorem dX1_write_22 : decode cX1_write 22 = .ok (.iconst 1, 1) := by decide +kernel
theorem dX1_write_23 : decode cX1_write 23 = .ok (.if_icmp .ne 14, 3) := by decide +kernel
theorem dX1_write_26 : decode cX1_write 26 = .ok (.aload_n 0, 1) := by decide +kernel
theorem dX1_write_27 : decode cX1_write 27 = .ok (.getfield 22, 3) := by decide +kernel
theorem dX1_write_30 : decode cX1_write 30 = .ok (.iload_n 1, 1) := by decide +kernel
theorem dX1_write_31 : decode cX1_write 31 = .ok (.iload_n 2, 1) := by decide +kernel
theorem dX1_write_32 : decode cX1_write 32 = .ok (.i2s, 1) := by decide +kernel
theorem dX1_write_33 : decode cX1_write 33 = .ok (.iastore, 1) := by decide +kernel
theorem dX1_write_34 : decode cX1_write 34 = .ok (.goto 10, 3) := by decide +kernel
theorem dX1_write_37 : decode cX1_write 37 = .ok (.aload_n 0, 1) := by decide +kernel
theorem dX1_write_38 : decode cX1_write 38 = .ok (.getfield 22, 3) := by decide +kernel
theorem dX1_write_41 : decode cX1_write 41 = .ok (.iload_n 1, 1) := by decide +kernel
theorem dX1_write_42 : decode cX1_write 42 = .ok (.iload_n 2, 1) := by decide +kernel
theorem dX1_write_43 : decode cX1_write 43 = .ok (.iastore, 1) := by decide +kernel
theorem dX1_write_44 : decode cX1_write 44 = .ok (.return_, 1) := by decide +kernel
theorem dX2_init_0 : decode cX2_init 0 = .ok (.aload_n 0, 1) := by decide +kernel
theorem dX2_init_1 : decode cX2_init 1 = .ok (.invokespecial 3, 3) := by decide +kernel
theorem dX2_init_4 : decode cX2_init 4 = .ok (.aload_n 0, 1) := by decide +kernel
theorem dX2_init_5 : decode cX2_init 5 = .ok (.sipush 160, 3) := by decide +kernel
theorem dX2_init_8 : decode cX2_init 8 = .ok (.newarray .int, 2) := by decide +kernel
theorem dX2_init_10 : decode cX2_init 10 = .ok (.putfield 9, 3) := by decide +kernel
theorem dX2_init_13 : decode cX2_init 13 = .ok (.aload_n 0, 1) := by decide +kernel
theorem dX2_init_14 : decode cX2_init 14 = .ok (.iconst 0, 1) := by decide +kernel
theorem dX2_init_15 : decode cX2_init 15 = .ok (.putfield 15, 3) := by decide +kernel
theorem dX2_init_18 : decode cX2_init 18 = .ok (.aload_n 0, 1) := by decide +kernel
theorem dX2_init_19 : decode cX2_init 19 = .ok (.iconst 0, 1) := by decide +kernel
theorem dX2_init_20 : decode cX2_init 20 = .ok (.putfield 19, 3) := by decide +kernel
theorem dX2_init_23 : decode cX2_init 23 = .ok (.aload_n 0, 1) := by decide +kernel
theorem dX2_init_24 : decode cX2_init 24 = .ok (.iconst 0, 1) := by decide +kernel
theorem dX2_init_25 : decode cX2_init 25 = .ok (.putfield 22, 3) := by decide +kernel
theorem dX2_init_28 : decode cX2_init 28 = .ok (.aload_n 0, 1) := by decide +kernel
theorem dX2_init_29 : decode cX2_init 29 = .ok (.iconst 0, 1) := by decide +kernel
theorem dX2_init_30 : decode cX2_init 30 = .ok (.putfield 25, 3) := by decide +kernel
theorem dX2_init_33 : decode cX2_init 33 = .ok (.aload_n 0, 1) := by decide +kernel
theorem dX2_init_34 : decode cX2_init 34 = .ok (.iconst 0, 1) := by decide +kernel
theorem dX2_init_35 : decode cX2_init 35 = .ok (.putfield 28, 3) := by decide +kernel
theorem dX2_init_38 : decode cX2_init 38 = .ok (.aload_n 0, 1) := by decide +kernel
theorem dX2_init_39 : decode cX2_init 39 = .ok (.iconst 0, 1) := by decide +kernel
theorem dX2_init_40 : decode cX2_init 40 = .ok (.putfield 31, 3) := by decide +kernel
theorem dX2_init_43 : decode cX2_init 43 = .ok (.aload_n 0, 1) := by decide +kernel
theorem dX2_init_44 : decode cX2_init 44 = .ok (.iconst 0, 1) := by decide +kernel
theorem dX2_init_45 : decode cX2_init 45 = .ok (.putfield 34, 3) := by decide +kernel
theorem dX2_init_48 : decode cX2_init 48 = .ok (.return_, 1) := by decide +kernel
theorem dX2_append_0 : decode cX2_append 0 = .ok (.aload_n 0, 1) := by decide +kernel
theorem dX2_append_1 : decode cX2_append 1 = .ok (.getfield 15, 3) := by decide +kernel
theorem dX2_append_4 : decode cX2_append 4 = .ok (.sipush 160, 3) := by decide +kernel
theorem dX2_append_7 : decode cX2_append 7 = .ok (.if_icmp .lt 6, 3) := by decide +kernel
theorem dX2_append_10 : decode cX2_append 10 = .ok (.bipush (-3), 2) := by decide +kernel
theorem dX2_append_12 : decode cX2_append 12 = .ok (.ireturn, 1) := by decide +kernel
theorem dX2_append_13 : decode cX2_append 13 = .ok (.aload_n 0, 1) := by decide +kernel
theorem dX2_append_14 : decode cX2_append 14 = .ok (.getfield 9, 3) := by decide +kernel
theorem dX2_append_17 : decode cX2_append 17 = .ok (.aload_n 0, 1) := by decide +kernel
theorem dX2_append_18 : decode cX2_append 18 = .ok (.getfield 15, 3) := by decide +kernel
theorem dX2_append_21 : decode cX2_append 21 = .ok (.iload_n 1, 1) := by decide +kernel
theorem dX2_append_22 : decode cX2_append 22 = .ok (.iastore, 1) := by decide +kernel
theorem dX2_append_23 : decode cX2_append 23 = .ok (.aload_n 0, 1) := by decide +kernel
theorem dX2_append_24 : decode cX2_append 24 = .ok (.dup, 1) := by decide +kernel
theorem dX2_append_25 : decode cX2_append 25 = .ok (.getfield 15, 3) := by decide +kernel
theorem dX2_append_28 : decode cX2_append 28 = .ok (.iconst 1, 1) := by decide +kernel
theorem dX2_append_29 : decode cX2_append 29 = .ok (.iadd, 1) := by decide +kernel
theorem dX2_append_30 : decode cX2_append 30 = .ok (.putfield 15, 3) := by decide +kernel
theorem dX2_append_33 : decode cX2_append 33 = .ok (.aload_n 0, 1) := by decide +kernel
theorem dX2_append_34 : decode cX2_append 34 = .ok (.getfield 15, 3) := by decide +kernel
theorem dX2_append_37 : decode cX2_append 37 = .ok (.ireturn, 1) := by decide +kernel
theorem dX2_tell_0 : decode cX2_tell 0 = .ok (.aload_n 1, 1) := by decide +kernel
theorem dX2_tell_1 : decode cX2_tell 1 = .ok (.invokevirtual 38, 3) := by decide +kernel
theorem dX2_tell_4 : decode cX2_tell 4 = .ok (.aload_n 0, 1) := by decide +kernel
theorem dX2_tell_5 : decode cX2_tell 5 = .ok (.iconst 0, 1) := by decide +kernel
theorem dX2_tell_6 : decode cX2_tell 6 = .ok (.putfield 19, 3) := by decide +kernel
theorem dX2_tell_9 : decode cX2_tell 9 = .ok (.aload_n 0, 1) := by decide +kernel
theorem dX2_tell_10 : decode cX2_tell 10 = .ok (.iconst 0, 1) := by decide +kernel
theorem dX2_tell_11 : decode cX2_tell 11 = .ok (.putfield 22, 3) := by decide +kernel
theorem dX2_tell_14 : decode cX2_tell 14 = .ok (.aload_n 0, 1) := by decide +kernel
theorem dX2_tell_15 : decode cX2_tell 15 = .ok (.iconst 0, 1) := by decide +kernel
theorem dX2_tell_16 : decode cX2_tell 16 = .ok (.putfield 34, 3) := by decide +kernel
theorem dX2_tell_19 : decode cX2_tell 19 = .ok (.iconst 0, 1) := by decide +kernel
theorem dX2_tell_20 : decode cX2_tell 20 = .ok (.istore_n 2, 1) := by decide +kernel
theorem dX2_tell_21 : decode cX2_tell 21 = .ok (.aload_n 0, 1) := by decide +kernel
theorem dX2_tell_22 : decode cX2_tell 22 = .ok (.invokevirtual 43, 3) := by decide +kernel
theorem dX2_tell_25 : decode cX2_tell 25 = .ok (.aload_n 0, 1) := by decide +kernel
theorem dX2_tell_26 : decode cX2_tell 26 = .ok (.getfield 19, 3) := by decide +kernel
theorem dX2_tell_29 : decode cX2_tell 29 = .ok (.ifCond .ne 32, 3) := by decide +kernel
theorem dX2_tell_32 : decode cX2_tell 32 = .ok (.aload_n 0, 1) := by decide +kernel
theorem dX2_tell_33 : decode cX2_tell 33 = .ok (.getfield 25, 3) := by decide +kernel
theorem dX2_tell_36 : decode cX2_tell 36 = .ok (.ifCond .eq 25, 3) := by decide +kernel
theorem dX2_tell_39 : decode cX2_tell 39 = .ok (.iload_n 2, 1) := by decide +kernel
theorem dX2_tell_40 : decode cX2_tell 40 = .ok (.sipush 160, 3) := by decide +kernel
theorem dX2_tell_43 : decode cX2_tell 43 = .ok (.if_icmp .ge 18, 3) := by decide +kernel
theorem dX2_tell_46 : decode cX2_tell 46 = .ok (.aload_n 0, 1) := by decide +kernel
theorem dX2_tell_47 : decode cX2_tell 47 = .ok (.aload_n 1, 1) := by decide +kernel
theorem dX2_tell_48 : decode cX2_tell 48 = .ok (.invokevirtual 46, 3) := by decide +kernel
theorem dX2_tell_51 : decode cX2_tell 51 = .ok (.iinc 2 1, 3) := by decide +kernel
theorem dX2_tell_54 : decode cX2_tell 54 = .ok (.aload_n 0, 1) := by decide +kernel
theorem dX2_tell_55 : decode cX2_tell 55 = .ok (.invokevirtual 43, 3) := by decide +kernel
theorem dX2_tell_58 : decode cX2_tell 58 = .ok (.goto (-33), 3) := by decide +kernel
theorem dX2_tell_61 : decode cX2_tell 61 = .ok (.aload_n 0, 1) := by decide +kernel
theorem dX2_tell_62 : decode cX2_tell 62 = .ok (.getfield 19, 3) := by decide +kernel
theorem dX2_tell_65 : decode cX2_tell 65 = .ok (.ifCond .ne 7, 3) := by decide +kernel
theorem dX2_tell_68 : decode cX2_tell 68 = .ok (.iload_n 2, 1) := by decide +kernel
theorem dX2_tell_69 : decode cX2_tell 69 = .ok (.goto 10, 3) := by decide +kernel
theorem dX2_tell_72 : decode cX2_tell 72 = .ok (.bipush (-10), 2) := by decide +kernel
theorem dX2_tell_74 : decode cX2_tell 74 = .ok (.aload_n 0, 1) := by decide +kernel
theorem dX2_tell_75 : decode cX2_tell 75 = .ok (.getfield 28, 3) := by decide +kernel
theorem dX2_tell_78 : decode cX2_tell 78 = .ok (.isub, 1) := by decide +kernel
theorem dX2_tell_79 : decode cX2_tell 79 = .ok (.ireturn, 1) := by decide +kernel
theorem dX2_nextToken_0 : decode cX2_nextToken 0 = .ok (.aload_n 0, 1) := by decide +kernel
theorem dX2_nextToken_1 : decode cX2_nextToken 1 = .ok (.getfield 19, 3) := by decide +kernel
theorem dX2_nextToken_4 : decode cX2_nextToken 4 = .ok (.ifCond .eq 4, 3) := by decide +kernel
theorem dX2_nextToken_7 : decode cX2_nextToken 7 = .ok (.return_, 1) := by decide +kernel
theorem dX2_nextToken_8 : decode cX2_nextToken 8 = .ok (.aload_n 0, 1) := by decide +kernel
theorem dX2_nextToken_9 : decode cX2_nextToken 9 = .ok (.getfield 22, 3) := by decide +kernel
theorem dX2_nextToken_12 : decode cX2_nextToken 12 = .ok (.aload_n 0, 1) := by decide +kernel
theorem dX2_nextToken_13 : decode cX2_nextToken 13 = .ok (.getfield 15, 3) := by decide +kernel
theorem dX2_nextToken_16 : decode cX2_nextToken 16 = .ok (.if_icmp .ge 30, 3) := by decide +kernel
theorem dX2_nextToken_19 : decode cX2_nextToken 19 = .ok (.aload_n 0, 1) := by decide +kernel
theorem dX2_nextToken_20 : decode cX2_nextToken 20 = .ok (.getfield 9, 3) := by decide +kernel
theorem dX2_nextToken_23 : decode cX2_nextToken 23 = .ok (.aload_n 0, 1) := by decide +kernel
theorem dX2_nextToken_24 : decode cX2_nextToken 24 = .ok (.getfield 22, 3) := by decide +kernel
theorem dX2_nextToken_27 : decode cX2_nextToken 27 = .ok (.iaload, 1) := by decide +kernel
theorem dX2_nextToken_28 : decode cX2_nextToken 28 = .ok (.bipush 32, 2) := by decide +kernel
theorem dX2_nextToken_30 : decode cX2_nextToken 30 = .ok (.if_icmp .ne 16, 3) := by decide +kernel
theorem dX2_nextToken_33 : decode cX2_nextToken 33 = .ok (.aload_n 0, 1) := by decide +kernel
theorem dX2_nextToken_34 : decode cX2_nextToken 34 = .ok (.dup, 1) := by decide +kernel
theorem dX2_nextToken_35 : decode cX2_nextToken 35 = .ok (.getfield 22, 3) := by decide +kernel
theorem dX2_nextToken_38 : decode cX2_nextToken 38 = .ok (.iconst 1, 1) := by decide +kernel
theorem dX2_nextToken_39 : decode cX2_nextToken 39 = .ok (.iadd, 1) := by decide +kernel
theorem dX2_nextToken_40 : decode cX2_nextToken 40 = .ok (.putfield 22, 3) := by decide +kernel
theorem dX2_nextToken_43 : decode cX2_nextToken 43 = .ok (.goto (-35), 3) := by decide +kernel
theorem dX2_nextToken_46 : decode cX2_nextToken 46 = .ok (.aload_n 0, 1) := by decide +kernel
theorem dX2_nextToken_47 : decode cX2_nextToken 47 = .ok (.aload_n 0, 1) := by decide +kernel
theorem dX2_nextToken_48 : decode cX2_nextToken 48 = .ok (.getfield 22, 3) := by decide +kernel
theorem dX2_nextToken_51 : decode cX2_nextToken 51 = .ok (.putfield 28, 3) := by decide +kernel
theorem dX2_nextToken_54 : decode cX2_nextToken 54 = .ok (.aload_n 0, 1) := by decide +kernel
theorem dX2_nextToken_55 : decode cX2_nextToken 55 = .ok (.getfield 22, 3) := by decide +kernel
theorem dX2_nextToken_58 : decode cX2_nextToken 58 = .ok (.aload_n 0, 1) := by decide +kernel
theorem dX2_nextToken_59 : decode cX2_nextToken 59 = .ok (.getfield 15, 3) := by decide +kernel
theorem dX2_nextToken_62 : decode cX2_nextToken 62 = .ok (.if_icmp .lt 11, 3) := by decide +kernel
theorem dX2_nextToken_65 : decode cX2_nextToken 65 = .ok (.aload_n 0, 1) := by decide +kernel
theorem dX2_nextToken_66 : decode cX2_nextToken 66 = .ok (.iconst 0, 1) := by decide +kernel
theorem dX2_nextToken_67 : decode cX2_nextToken 67 = .ok (.putfield 25, 3) := by decide +kernel
theorem dX2_nextToken_70 : decode cX2_nextToken 70 = .ok (.goto 84, 3) := by decide +kernel
theorem dX2_nextToken_73 : decode cX2_nextToken 73 = .ok (.aload_n 0, 1) := by decide +kernel
theorem dX2_nextToken_74 : decode cX2_nextToken 74 = .ok (.getfield 9, 3) := by decide +kernel
theorem dX2_nextToken_77 : decode cX2_nextToken 77 = .ok (.aload_n 0, 1) := by decide +kernel
theorem dX2_nextToken_78 : decode cX2_nextToken 78 = .ok (.getfield 22, 3) := by decide +kernel
theorem dX2_nextToken_81 : decode cX2_nextToken 81 = .ok (.iaload, 1) := by decide +kernel
theorem dX2_nextToken_82 : decode cX2_nextToken 82 = .ok (.invokestatic 50, 3) := by decide +kernel
theorem dX2_nextToken_85 : decode cX2_nextToken 85 = .ok (.ifCond .eq 10, 3) := by decide +kernel
theorem dX2_nextToken_88 : decode cX2_nextToken 88 = .ok (.aload_n 0, 1) := by decide +kernel
theorem dX2_nextToken_89 : decode cX2_nextToken 89 = .ok (.invokevirtual 54, 3) := by decide +kernel
theorem dX2_nextToken_92 : decode cX2_nextToken 92 = .ok (.goto 62, 3) := by decide +kernel
theorem dX2_nextToken_95 : decode cX2_nextToken 95 = .ok (.aload_n 0, 1) := by decide +kernel
theorem dX2_nextToken_96 : decode cX2_nextToken 96 = .ok (.getfield 9, 3) := by decide +kernel
theorem dX2_nextToken_99 : decode cX2_nextToken 99 = .ok (.aload_n 0, 1) := by decide +kernel
theorem dX2_nextToken_100 : decode cX2_nextToken 100 = .ok (.getfield 22, 3) := by decide +kernel
theorem dX2_nextToken_103 : decode cX2_nextToken 103 = .ok (.iaload, 1) := by decide +kernel
theorem dX2_nextToken_104 : decode cX2_nextToken 104 = .ok (.invokestatic 57, 3) := by decide +kernel
theorem dX2_nextToken_107 : decode cX2_nextToken 107 = .ok (.ifCond .eq 10, 3) := by decide +kernel
theorem dX2_nextToken_110 : decode cX2_nextToken 110 = .ok (.aload_n 0, 1) := by decide +kernel
theorem dX2_nextToken_111 : decode cX2_nextToken 111 = .ok (.invokevirtual 60, 3) := by decide +kernel
theorem dX2_nextToken_114 : decode cX2_nextToken 114 = .ok (.goto 40, 3) := by decide +kernel
theorem dX2_nextToken_117 : decode cX2_nextToken 117 = .ok (.aload_n 0, 1) := by decide +kernel
theorem dX2_nextToken_118 : decode cX2_nextToken 118 = .ok (.getfield 9, 3) := by decide +kernel
theorem dX2_nextToken_121 : decode cX2_nextToken 121 = .ok (.aload_n 0, 1) := by decide +kernel
theorem dX2_nextToken_122 : decode cX2_nextToken 122 = .ok (.getfield 22, 3) := by decide +kernel
theorem dX2_nextToken_125 : decode cX2_nextToken 125 = .ok (.iaload, 1) := by decide +kernel
theorem dX2_nextToken_126 : decode cX2_nextToken 126 = .ok (.bipush 59, 2) := by decide +kernel
theorem dX2_nextToken_128 : decode cX2_nextToken 128 = .ok (.if_icmp .ne 21, 3) := by decide +kernel
theorem dX2_nextToken_131 : decode cX2_nextToken 131 = .ok (.aload_n 0, 1) := by decide +kernel
theorem dX2_nextToken_132 : decode cX2_nextToken 132 = .ok (.iconst 3, 1) := by decide +kernel
theorem dX2_nextToken_133 : decode cX2_nextToken 133 = .ok (.putfield 25, 3) := by decide +kernel
theorem dX2_nextToken_136 : decode cX2_nextToken 136 = .ok (.aload_n 0, 1) := by decide +kernel
theorem dX2_nextToken_137 : decode cX2_nextToken 137 = .ok (.dup, 1) := by decide +kernel
theorem dX2_nextToken_138 : decode cX2_nextToken 138 = .ok (.getfield 22, 3) := by decide +kernel
theorem dX2_nextToken_141 : decode cX2_nextToken 141 = .ok (.iconst 1, 1) := by decide +kernel
theorem dX2_nextToken_142 : decode cX2_nextToken 142 = .ok (.iadd, 1) := by decide +kernel
theorem dX2_nextToken_143 : decode cX2_nextToken 143 = .ok (.putfield 22, 3) := by decide +kernel
theorem dX2_nextToken_146 : decode cX2_nextToken 146 = .ok (.goto 8, 3) := by decide +kernel
theorem dX2_nextToken_149 : decode cX2_nextToken 149 = .ok (.aload_n 0, 1) := by decide +kernel
theorem dX2_nextToken_150 : decode cX2_nextToken 150 = .ok (.iconst 1, 1) := by decide +kernel
theorem dX2_nextToken_151 : decode cX2_nextToken 151 = .ok (.putfield 19, 3) := by decide +kernel
theorem dX2_nextToken_154 : decode cX2_nextToken 154 = .ok (.return_, 1) := by decide +kernel
theorem dX2_takeName_0 : decode cX2_takeName 0 = .ok (.aload_n 0, 1) := by decide +kernel
theorem dX2_takeName_1 : decode cX2_takeName 1 = .ok (.iconst 1, 1) := by decide +kernel
theorem dX2_takeName_2 : decode cX2_takeName 2 = .ok (.putfield 25, 3) := by decide +kernel
theorem dX2_takeName_5 : decode cX2_takeName 5 = .ok (.aload_n 0, 1) := by decide +kernel
theorem dX2_takeName_6 : decode cX2_takeName 6 = .ok (.getfield 22, 3) := by decide +kernel
theorem dX2_takeName_9 : decode cX2_takeName 9 = .ok (.aload_n 0, 1) := by decide +kernel
theorem dX2_takeName_10 : decode cX2_takeName 10 = .ok (.getfield 15, 3) := by decide +kernel
theorem dX2_takeName_13 : decode cX2_takeName 13 = .ok (.if_icmp .ge 31, 3) := by decide +kernel
theorem dX2_takeName_16 : decode cX2_takeName 16 = .ok (.aload_n 0, 1) := by decide +kernel
theorem dX2_takeName_17 : decode cX2_takeName 17 = .ok (.getfield 9, 3) := by decide +kernel
theorem dX2_takeName_20 : decode cX2_takeName 20 = .ok (.aload_n 0, 1) := by decide +kernel
theorem dX2_takeName_21 : decode cX2_takeName 21 = .ok (.getfield 22, 3) := by decide +kernel
theorem dX2_takeName_24 : decode cX2_takeName 24 = .ok (.iaload, 1) := by decide +kernel
theorem dX2_takeName_25 : decode cX2_takeName 25 = .ok (.invokestatic 50, 3) := by decide +kernel
theorem dX2_takeName_28 : decode cX2_takeName 28 = .ok (.ifCond .eq 16, 3) := by decide +kernel
theorem dX2_takeName_31 : decode cX2_takeName 31 = .ok (.aload_n 0, 1) := by decide +kernel
theorem dX2_takeName_32 : decode cX2_takeName 32 = .ok (.dup, 1) := by decide +kernel
theorem dX2_takeName_33 : decode cX2_takeName 33 = .ok (.getfield 22, 3) := by decide +kernel
theorem dX2_takeName_36 : decode cX2_takeName 36 = .ok (.iconst 1, 1) := by decide +kernel
theorem dX2_takeName_37 : decode cX2_takeName 37 = .ok (.iadd, 1) := by decide +kernel
theorem dX2_takeName_38 : decode cX2_takeName 38 = .ok (.putfield 22, 3) := by decide +kernel
theorem dX2_takeName_41 : decode cX2_takeName 41 = .ok (.goto (-36), 3) := by decide +kernel
theorem dX2_takeName_44 : decode cX2_takeName 44 = .ok (.return_, 1) := by decide +kernel
theorem dX2_takeNumber_0 : decode cX2_takeNumber 0 = .ok (.aload_n 0, 1) := by decide +kernel
theorem dX2_takeNumber_1 : decode cX2_takeNumber 1 = .ok (.iconst 2, 1) := by decide +kernel
theorem dX2_takeNumber_2 : decode cX2_takeNumber 2 = .ok (.putfield 25, 3) := by decide +kernel
theorem dX2_takeNumber_5 : decode cX2_takeNumber 5 = .ok (.aload_n 0, 1) := by decide +kernel
theorem dX2_takeNumber_6 : decode cX2_takeNumber 6 = .ok (.iconst 0, 1) := by decide +kernel
theorem dX2_takeNumber_7 : decode cX2_takeNumber 7 = .ok (.putfield 31, 3) := by decide +kernel
theorem dX2_takeNumber_10 : decode cX2_takeNumber 10 = .ok (.aload_n 0, 1) := by decide +kernel
theorem dX2_takeNumber_11 : decode cX2_takeNumber 11 = .ok (.getfield 22, 3) := by decide +kernel
theorem dX2_takeNumber_14 : decode cX2_takeNumber 14 = .ok (.aload_n 0, 1) := by decide +kernel
theorem dX2_takeNumber_15 : decode cX2_takeNumber 15 = .ok (.getfield 15, 3) := by decide +kernel
theorem dX2_takeNumber_18 : decode cX2_takeNumber 18 = .ok (.if_icmp .ge 74, 3) := by decide +kernel
theorem dX2_takeNumber_21 : decode cX2_takeNumber 21 = .ok (.aload_n 0, 1) := by decide +kernel
theorem dX2_takeNumber_22 : decode cX2_takeNumber 22 = .ok (.getfield 9, 3) := by decide +kernel
theorem dX2_takeNumber_25 : decode cX2_takeNumber 25 = .ok (.aload_n 0, 1) := by decide +kernel
theorem dX2_takeNumber_26 : decode cX2_takeNumber 26 = .ok (.getfield 22, 3) := by decide +kernel
theorem dX2_takeNumber_29 : decode cX2_takeNumber 29 = .ok (.iaload, 1) := by decide +kernel
theorem dX2_takeNumber_30 : decode cX2_takeNumber 30 = .ok (.invokestatic 57, 3) := by decide +kernel
theorem dX2_takeNumber_33 : decode cX2_takeNumber 33 = .ok (.ifCond .eq 59, 3) := by decide +kernel
theorem dX2_takeNumber_36 : decode cX2_takeNumber 36 = .ok (.aload_n 0, 1) := by decide +kernel
theorem dX2_takeNumber_37 : decode cX2_takeNumber 37 = .ok (.getfield 22, 3) := by decide +kernel
theorem dX2_takeNumber_40 : decode cX2_takeNumber 40 = .ok (.aload_n 0, 1) := by decide +kernel
theorem dX2_takeNumber_41 : decode cX2_takeNumber 41 = .ok (.getfield 28, 3) := by decide +kernel
theorem dX2_takeNumber_44 : decode cX2_takeNumber 44 = .ok (.isub, 1) := by decide +kernel
theorem dX2_takeNumber_45 : decode cX2_takeNumber 45 = .ok (.iconst 2, 1) := by decide +kernel
theorem dX2_takeNumber_46 : decode cX2_takeNumber 46 = .ok (.if_icmp .lt 9, 3) := by decide +kernel
theorem dX2_takeNumber_49 : decode cX2_takeNumber 49 = .ok (.aload_n 0, 1) := by decide +kernel
theorem dX2_takeNumber_50 : decode cX2_takeNumber 50 = .ok (.iconst 1, 1) := by decide +kernel
theorem dX2_takeNumber_51 : decode cX2_takeNumber 51 = .ok (.putfield 19, 3) := by decide +kernel
theorem dX2_takeNumber_54 : decode cX2_takeNumber 54 = .ok (.return_, 1) := by decide +kernel
theorem dX2_takeNumber_55 : decode cX2_takeNumber 55 = .ok (.aload_n 0, 1) := by decide +kernel
theorem dX2_takeNumber_56 : decode cX2_takeNumber 56 = .ok (.aload_n 0, 1) := by decide +kernel
theorem dX2_takeNumber_57 : decode cX2_takeNumber 57 = .ok (.getfield 31, 3) := by decide +kernel
theorem dX2_takeNumber_60 : decode cX2_takeNumber 60 = .ok (.bipush 10, 2) := by decide +kernel
theorem dX2_takeNumber_62 : decode cX2_takeNumber 62 = .ok (.imul, 1) := by decide +kernel
theorem dX2_takeNumber_63 : decode cX2_takeNumber 63 = .ok (.aload_n 0, 1) := by decide +kernel
theorem dX2_takeNumber_64 : decode cX2_takeNumber 64 = .ok (.getfield 9, 3) := by decide +kernel
theorem dX2_takeNumber_67 : decode cX2_takeNumber 67 = .ok (.aload_n 0, 1) := by decide +kernel
theorem dX2_takeNumber_68 : decode cX2_takeNumber 68 = .ok (.getfield 22, 3) := by decide +kernel
theorem dX2_takeNumber_71 : decode cX2_takeNumber 71 = .ok (.iaload, 1) := by decide +kernel
theorem dX2_takeNumber_72 : decode cX2_takeNumber 72 = .ok (.iadd, 1) := by decide +kernel
theorem dX2_takeNumber_73 : decode cX2_takeNumber 73 = .ok (.bipush 48, 2) := by decide +kernel
theorem dX2_takeNumber_75 : decode cX2_takeNumber 75 = .ok (.isub, 1) := by decide +kernel
theorem dX2_takeNumber_76 : decode cX2_takeNumber 76 = .ok (.putfield 31, 3) := by decide +kernel
theorem dX2_takeNumber_79 : decode cX2_takeNumber 79 = .ok (.aload_n 0, 1) := by decide +kernel
theorem dX2_takeNumber_80 : decode cX2_takeNumber 80 = .ok (.dup, 1) := by decide +kernel
theorem dX2_takeNumber_81 : decode cX2_takeNumber 81 = .ok (.getfield 22, 3) := by decide +kernel
theorem dX2_takeNumber_84 : decode cX2_takeNumber 84 = .ok (.iconst 1, 1) := by decide +kernel
theorem dX2_takeNumber_85 : decode cX2_takeNumber 85 = .ok (.iadd, 1) := by decide +kernel
theorem dX2_takeNumber_86 : decode cX2_takeNumber 86 = .ok (.putfield 22, 3) := by decide +kernel
theorem dX2_takeNumber_89 : decode cX2_takeNumber 89 = .ok (.goto (-79), 3) := by decide +kernel
theorem dX2_takeNumber_92 : decode cX2_takeNumber 92 = .ok (.return_, 1) := by decide +kernel
theorem dX2_isLetter_0 : decode cX2_isLetter 0 = .ok (.iload_n 0, 1) := by decide +kernel
theorem dX2_isLetter_1 : decode cX2_isLetter 1 = .ok (.bipush 97, 2) := by decide +kernel
theorem dX2_isLetter_3 : decode cX2_isLetter 3 = .ok (.if_icmp .lt 13, 3) := by decide +kernel
theorem dX2_isLetter_6 : decode cX2_isLetter 6 = .ok (.iload_n 0, 1) := by decide +kernel
theorem dX2_isLetter_7 : decode cX2_isLetter 7 = .ok (.bipush 122, 2) := by decide +kernel
theorem dX2_isLetter_9 : decode cX2_isLetter 9 = .ok (.if_icmp .gt 7, 3) := by decide +kernel
theorem dX2_isLetter_12 : decode cX2_isLetter 12 = .ok (.iconst 1, 1) := by decide +kernel
theorem dX2_isLetter_13 : decode cX2_isLetter 13 = .ok (.goto 4, 3) := by decide +kernel
theorem dX2_isLetter_16 : decode cX2_isLetter 16 = .ok (.iconst 0, 1) := by decide +kernel
theorem dX2_isLetter_17 : decode cX2_isLetter 17 = .ok (.ireturn, 1) := by decide +kernel
theorem dX2_isFigure_0 : decode cX2_isFigure 0 = .ok (.iload_n 0, 1) := by decide +kernel
theorem dX2_isFigure_1 : decode cX2_isFigure 1 = .ok (.bipush 48, 2) := by decide +kernel
theorem dX2_isFigure_3 : decode cX2_isFigure 3 = .ok (.if_icmp .lt 13, 3) := by decide +kernel
theorem dX2_isFigure_6 : decode cX2_isFigure 6 = .ok (.iload_n 0, 1) := by decide +kernel
theorem dX2_isFigure_7 : decode cX2_isFigure 7 = .ok (.bipush 57, 2) := by decide +kernel
theorem dX2_isFigure_9 : decode cX2_isFigure 9 = .ok (.if_icmp .gt 7, 3) := by decide +kernel
theorem dX2_isFigure_12 : decode cX2_isFigure 12 = .ok (.iconst 1, 1) := by decide +kernel
theorem dX2_isFigure_13 : decode cX2_isFigure 13 = .ok (.goto 4, 3) := by decide +kernel
theorem dX2_isFigure_16 : decode cX2_isFigure 16 = .ok (.iconst 0, 1) := by decide +kernel
theorem dX2_isFigure_17 : decode cX2_isFigure 17 = .ok (.ireturn, 1) := by decide +kernel
theorem dX2_takeLine_0 : decode cX2_takeLine 0 = .ok (.aload_n 0, 1) := by decide +kernel
theorem dX2_takeLine_1 : decode cX2_takeLine 1 = .ok (.invokevirtual 63, 3) := by decide +kernel
theorem dX2_takeLine_4 : decode cX2_takeLine 4 = .ok (.istore_n 2, 1) := by decide +kernel
theorem dX2_takeLine_5 : decode cX2_takeLine 5 = .ok (.iload_n 2, 1) := by decide +kernel
theorem dX2_takeLine_6 : decode cX2_takeLine 6 = .ok (.bipush 8, 2) := by decide +kernel
theorem dX2_takeLine_8 : decode cX2_takeLine 8 = .ok (.if_icmp .ne 11, 3) := by decide +kernel
theorem dX2_takeLine_11 : decode cX2_takeLine 11 = .ok (.aload_n 0, 1) := by decide +kernel
theorem dX2_takeLine_12 : decode cX2_takeLine 12 = .ok (.iconst 2, 1) := by decide +kernel
theorem dX2_takeLine_13 : decode cX2_takeLine 13 = .ok (.putfield 19, 3) := by decide +kernel
theorem dX2_takeLine_16 : decode cX2_takeLine 16 = .ok (.goto 36, 3) := by decide +kernel
theorem dX2_takeLine_19 : decode cX2_takeLine 19 = .ok (.iload_n 2, 1) := by decide +kernel
theorem dX2_takeLine_20 : decode cX2_takeLine 20 = .ok (.iconst 4, 1) := by decide +kernel
theorem dX2_takeLine_21 : decode cX2_takeLine 21 = .ok (.if_icmp .ge 12, 3) := by decide +kernel
theorem dX2_takeLine_24 : decode cX2_takeLine 24 = .ok (.aload_n 0, 1) := by decide +kernel
theorem dX2_takeLine_25 : decode cX2_takeLine 25 = .ok (.aload_n 1, 1) := by decide +kernel
theorem dX2_takeLine_26 : decode cX2_takeLine 26 = .ok (.iload_n 2, 1) := by decide +kernel
theorem dX2_takeLine_27 : decode cX2_takeLine 27 = .ok (.invokevirtual 67, 3) := by decide +kernel
theorem dX2_takeLine_30 : decode cX2_takeLine 30 = .ok (.goto 22, 3) := by decide +kernel
theorem dX2_takeLine_33 : decode cX2_takeLine 33 = .ok (.iload_n 2, 1) := by decide +kernel
theorem dX2_takeLine_34 : decode cX2_takeLine 34 = .ok (.iconst 4, 1) := by decide +kernel
theorem dX2_takeLine_35 : decode cX2_takeLine 35 = .ok (.if_icmp .ne 11, 3) := by decide +kernel
theorem dX2_takeLine_38 : decode cX2_takeLine 38 = .ok (.aload_n 0, 1) := by decide +kernel
theorem dX2_takeLine_39 : decode cX2_takeLine 39 = .ok (.aload_n 1, 1) := by decide +kernel
theorem dX2_takeLine_40 : decode cX2_takeLine 40 = .ok (.invokevirtual 71, 3) := by decide +kernel
theorem dX2_takeLine_43 : decode cX2_takeLine 43 = .ok (.goto 9, 3) := by decide +kernel
theorem dX2_takeLine_46 : decode cX2_takeLine 46 = .ok (.aload_n 0, 1) := by decide +kernel
theorem dX2_takeLine_47 : decode cX2_takeLine 47 = .ok (.aload_n 1, 1) := by decide +kernel
theorem dX2_takeLine_48 : decode cX2_takeLine 48 = .ok (.iload_n 2, 1) := by decide +kernel
theorem dX2_takeLine_49 : decode cX2_takeLine 49 = .ok (.invokevirtual 74, 3) := by decide +kernel
theorem dX2_takeLine_52 : decode cX2_takeLine 52 = .ok (.return_, 1) := by decide +kernel
theorem dX2_takeWheelLine_0 : decode cX2_takeWheelLine 0 = .ok (.aload_n 1, 1) := by decide +kernel
theorem dX2_takeWheelLine_1 : decode cX2_takeWheelLine 1 = .ok (.getfield 77, 3) := by decide +kernel
theorem dX2_takeWheelLine_4 : decode cX2_takeWheelLine 4 = .ok (.iconst 4, 1) := by decide +kernel
theorem dX2_takeWheelLine_5 : decode cX2_takeWheelLine 5 = .ok (.if_icmp .lt 9, 3) := by decide +kernel
theorem dX2_takeWheelLine_8 : decode cX2_takeWheelLine 8 = .ok (.aload_n 0, 1) := by decide +kernel
theorem dX2_takeWheelLine_9 : decode cX2_takeWheelLine 9 = .ok (.iconst 5, 1) := by decide +kernel
theorem dX2_takeWheelLine_10 : decode cX2_takeWheelLine 10 = .ok (.putfield 19, 3) := by decide +kernel
theorem dX2_takeWheelLine_13 : decode cX2_takeWheelLine 13 = .ok (.return_, 1) := by decide +kernel
theorem dX2_takeWheelLine_14 : decode cX2_takeWheelLine 14 = .ok (.aload_n 0, 1) := by decide +kernel
theorem dX2_takeWheelLine_15 : decode cX2_takeWheelLine 15 = .ok (.iconst 1, 1) := by decide +kernel
theorem dX2_takeWheelLine_16 : decode cX2_takeWheelLine 16 = .ok (.bipush 20, 2) := by decide +kernel
theorem dX2_takeWheelLine_18 : decode cX2_takeWheelLine 18 = .ok (.invokevirtual 80, 3) := by decide +kernel
theorem dX2_takeWheelLine_21 : decode cX2_takeWheelLine 21 = .ok (.istore_n 3, 1) := by decide +kernel
theorem dX2_takeWheelLine_22 : decode cX2_takeWheelLine 22 = .ok (.aload_n 0, 1) := by decide +kernel
theorem dX2_takeWheelLine_23 : decode cX2_takeWheelLine 23 = .ok (.iconst 0, 1) := by decide +kernel
theorem dX2_takeWheelLine_24 : decode cX2_takeWheelLine 24 = .ok (.bipush 9, 2) := by decide +kernel
theorem dX2_takeWheelLine_26 : decode cX2_takeWheelLine 26 = .ok (.invokevirtual 80, 3) := by decide +kernel
theorem dX2_takeWheelLine_29 : decode cX2_takeWheelLine 29 = .ok (.istore 4, 2) := by decide +kernel
theorem dX2_takeWheelLine_31 : decode cX2_takeWheelLine 31 = .ok (.aload_n 0, 1) := by decide +kernel
theorem dX2_takeWheelLine_32 : decode cX2_takeWheelLine 32 = .ok (.invokevirtual 84, 3) := by decide +kernel
theorem dX2_takeWheelLine_35 : decode cX2_takeWheelLine 35 = .ok (.aload_n 0, 1) := by decide +kernel
theorem dX2_takeWheelLine_36 : decode cX2_takeWheelLine 36 = .ok (.getfield 19, 3) := by decide +kernel
theorem dX2_takeWheelLine_39 : decode cX2_takeWheelLine 39 = .ok (.ifCond .ne 12, 3) := by decide +kernel
theorem dX2_takeWheelLine_42 : decode cX2_takeWheelLine 42 = .ok (.aload_n 1, 1) := by decide +kernel
theorem dX2_takeWheelLine_43 : decode cX2_takeWheelLine 43 = .ok (.iload_n 2, 1) := by decide +kernel
theorem dX2_takeWheelLine_44 : decode cX2_takeWheelLine 44 = .ok (.iload_n 3, 1) := by decide +kernel
theorem dX2_takeWheelLine_45 : decode cX2_takeWheelLine 45 = .ok (.iload 4, 2) := by decide +kernel
theorem dX2_takeWheelLine_47 : decode cX2_takeWheelLine 47 = .ok (.invokevirtual 87, 3) := by decide +kernel
theorem dX2_takeWheelLine_50 : decode cX2_takeWheelLine 50 = .ok (.pop, 1) := by decide +kernel
theorem dX2_takeWheelLine_51 : decode cX2_takeWheelLine 51 = .ok (.return_, 1) := by decide +kernel
theorem dX2_takeShaftLine_0 : decode cX2_takeShaftLine 0 = .ok (.aload_n 0, 1) := by decide +kernel
theorem dX2_takeShaftLine_1 : decode cX2_takeShaftLine 1 = .ok (.getfield 34, 3) := by decide +kernel
theorem dX2_takeShaftLine_4 : decode cX2_takeShaftLine 4 = .ok (.ifCond .eq 9, 3) := by decide +kernel
theorem dX2_takeShaftLine_7 : decode cX2_takeShaftLine 7 = .ok (.aload_n 0, 1) := by decide +kernel
theorem dX2_takeShaftLine_8 : decode cX2_takeShaftLine 8 = .ok (.iconst 4, 1) := by decide +kernel
theorem dX2_takeShaftLine_9 : decode cX2_takeShaftLine 9 = .ok (.putfield 19, 3) := by decide +kernel
theorem dX2_takeShaftLine_12 : decode cX2_takeShaftLine 12 = .ok (.return_, 1) := by decide +kernel
theorem dX2_takeShaftLine_13 : decode cX2_takeShaftLine 13 = .ok (.aload_n 0, 1) := by decide +kernel
theorem dX2_takeShaftLine_14 : decode cX2_takeShaftLine 14 = .ok (.iconst 1, 1) := by decide +kernel
theorem dX2_takeShaftLine_15 : decode cX2_takeShaftLine 15 = .ok (.bipush 20, 2) := by decide +kernel
theorem dX2_takeShaftLine_17 : decode cX2_takeShaftLine 17 = .ok (.invokevirtual 80, 3) := by decide +kernel
theorem dX2_takeShaftLine_20 : decode cX2_takeShaftLine 20 = .ok (.istore_n 2, 1) := by decide +kernel
theorem dX2_takeShaftLine_21 : decode cX2_takeShaftLine 21 = .ok (.aload_n 0, 1) := by decide +kernel
theorem dX2_takeShaftLine_22 : decode cX2_takeShaftLine 22 = .ok (.invokevirtual 84, 3) := by decide +kernel
theorem dX2_takeShaftLine_25 : decode cX2_takeShaftLine 25 = .ok (.aload_n 0, 1) := by decide +kernel
theorem dX2_takeShaftLine_26 : decode cX2_takeShaftLine 26 = .ok (.getfield 19, 3) := by decide +kernel
theorem dX2_takeShaftLine_29 : decode cX2_takeShaftLine 29 = .ok (.ifCond .ne 13, 3) := by decide +kernel
theorem dX2_takeShaftLine_32 : decode cX2_takeShaftLine 32 = .ok (.aload_n 1, 1) := by decide +kernel
theorem dX2_takeShaftLine_33 : decode cX2_takeShaftLine 33 = .ok (.iload_n 2, 1) := by decide +kernel
theorem dX2_takeShaftLine_34 : decode cX2_takeShaftLine 34 = .ok (.putfield 91, 3) := by decide +kernel
theorem dX2_takeShaftLine_37 : decode cX2_takeShaftLine 37 = .ok (.aload_n 0, 1) := by decide +kernel
theorem dX2_takeShaftLine_38 : decode cX2_takeShaftLine 38 = .ok (.iconst 1, 1) := by decide +kernel
theorem dX2_takeShaftLine_39 : decode cX2_takeShaftLine 39 = .ok (.putfield 34, 3) := by decide +kernel
theorem dX2_takeShaftLine_42 : decode cX2_takeShaftLine 42 = .ok (.return_, 1) := by decide +kernel
theorem dX2_takeActLine_0 : decode cX2_takeActLine 0 = .ok (.aload_n 1, 1) := by decide +kernel
theorem dX2_takeActLine_1 : decode cX2_takeActLine 1 = .ok (.getfield 94, 3) := by decide +kernel
theorem dX2_takeActLine_4 : decode cX2_takeActLine 4 = .ok (.bipush 16, 2) := by decide +kernel
theorem dX2_takeActLine_6 : decode cX2_takeActLine 6 = .ok (.if_icmp .lt 9, 3) := by decide +kernel
theorem dX2_takeActLine_9 : decode cX2_takeActLine 9 = .ok (.aload_n 0, 1) := by decide +kernel
theorem dX2_takeActLine_10 : decode cX2_takeActLine 10 = .ok (.iconst 5, 1) := by decide +kernel
theorem dX2_takeActLine_11 : decode cX2_takeActLine 11 = .ok (.putfield 19, 3) := by decide +kernel
theorem dX2_takeActLine_14 : decode cX2_takeActLine 14 = .ok (.return_, 1) := by decide +kernel
theorem dX2_takeActLine_15 : decode cX2_takeActLine 15 = .ok (.aload_n 0, 1) := by decide +kernel
theorem dX2_takeActLine_16 : decode cX2_takeActLine 16 = .ok (.iconst 0, 1) := by decide +kernel
theorem dX2_takeActLine_17 : decode cX2_takeActLine 17 = .ok (.iload_n 2, 1) := by decide +kernel
theorem dX2_takeActLine_18 : decode cX2_takeActLine 18 = .ok (.bipush 7, 2) := by decide +kernel
theorem dX2_takeActLine_20 : decode cX2_takeActLine 20 = .ok (.if_icmp .ne 7, 3) := by decide +kernel
theorem dX2_takeActLine_23 : decode cX2_takeActLine 23 = .ok (.iconst 3, 1) := by decide +kernel
theorem dX2_takeActLine_24 : decode cX2_takeActLine 24 = .ok (.goto 5, 3) := by decide +kernel
theorem dX2_takeActLine_27 : decode cX2_takeActLine 27 = .ok (.bipush 99, 2) := by decide +kernel
theorem dX2_takeActLine_29 : decode cX2_takeActLine 29 = .ok (.invokevirtual 80, 3) := by decide +kernel
theorem dX2_takeActLine_32 : decode cX2_takeActLine 32 = .ok (.istore_n 3, 1) := by decide +kernel
theorem dX2_takeActLine_33 : decode cX2_takeActLine 33 = .ok (.aload_n 0, 1) := by decide +kernel
theorem dX2_takeActLine_34 : decode cX2_takeActLine 34 = .ok (.invokevirtual 84, 3) := by decide +kernel
theorem dX2_takeActLine_37 : decode cX2_takeActLine 37 = .ok (.aload_n 0, 1) := by decide +kernel
theorem dX2_takeActLine_38 : decode cX2_takeActLine 38 = .ok (.getfield 19, 3) := by decide +kernel
theorem dX2_takeActLine_41 : decode cX2_takeActLine 41 = .ok (.ifCond .ne 14, 3) := by decide +kernel
theorem dX2_takeActLine_44 : decode cX2_takeActLine 44 = .ok (.aload_n 1, 1) := by decide +kernel
theorem dX2_takeActLine_45 : decode cX2_takeActLine 45 = .ok (.iload_n 2, 1) := by decide +kernel
theorem dX2_takeActLine_46 : decode cX2_takeActLine 46 = .ok (.invokestatic 97, 3) := by decide +kernel
theorem dX2_takeActLine_49 : decode cX2_takeActLine 49 = .ok (.iload_n 3, 1) := by decide +kernel
theorem dX2_takeActLine_50 : decode cX2_takeActLine 50 = .ok (.iadd, 1) := by decide +kernel
theorem dX2_takeActLine_51 : decode cX2_takeActLine 51 = .ok (.invokevirtual 101, 3) := by decide +kernel
theorem dX2_takeActLine_54 : decode cX2_takeActLine 54 = .ok (.pop, 1) := by decide +kernel
theorem dX2_takeActLine_55 : decode cX2_takeActLine 55 = .ok (.return_, 1) := by decide +kernel
theorem dX2_firstActOf_0 : decode cX2_firstActOf 0 = .ok (.iload_n 0, 1) := by decide +kernel
theorem dX2_firstActOf_1 : decode cX2_firstActOf 1 = .ok (.lookupswitch 34 #[(6, 27), (7, 30)], 27) := by decide +kernel
theorem dX2_firstActOf_28 : decode cX2_firstActOf 28 = .ok (.bipush 100, 2) := by decide +kernel
theorem dX2_firstActOf_30 : decode cX2_firstActOf 30 = .ok (.ireturn, 1) := by decide +kernel
theorem dX2_firstActOf_31 : decode cX2_firstActOf 31 = .ok (.sipush 200, 3) := by decide +kernel
theorem dX2_firstActOf_34 : decode cX2_firstActOf 34 = .ok (.ireturn, 1) := by decide +kernel
theorem dX2_firstActOf_35 : decode cX2_firstActOf 35 = .ok (.iconst 0, 1) := by decide +kernel
theorem dX2_firstActOf_36 : decode cX2_firstActOf 36 = .ok (.ireturn, 1) := by decide +kernel
theorem dX2_numberWithin_0 : decode cX2_numberWithin 0 = .ok (.aload_n 0, 1) := by decide +kernel
theorem dX2_numberWithin_1 : decode cX2_numberWithin 1 = .ok (.invokevirtual 43, 3) := by decide +kernel
theorem dX2_numberWithin_4 : decode cX2_numberWithin 4 = .ok (.aload_n 0, 1) := by decide +kernel
theorem dX2_numberWithin_5 : decode cX2_numberWithin 5 = .ok (.getfield 19, 3) := by decide +kernel
theorem dX2_numberWithin_8 : decode cX2_numberWithin 8 = .ok (.ifCond .ne 16, 3) := by decide +kernel
theorem dX2_numberWithin_11 : decode cX2_numberWithin 11 = .ok (.aload_n 0, 1) := by decide +kernel
theorem dX2_numberWithin_12 : decode cX2_numberWithin 12 = .ok (.getfield 25, 3) := by decide +kernel
theorem dX2_numberWithin_15 : decode cX2_numberWithin 15 = .ok (.iconst 2, 1) := by decide +kernel
theorem dX2_numberWithin_16 : decode cX2_numberWithin 16 = .ok (.if_icmp .eq 8, 3) := by decide +kernel
theorem dX2_numberWithin_19 : decode cX2_numberWithin 19 = .ok (.aload_n 0, 1) := by decide +kernel
theorem dX2_numberWithin_20 : decode cX2_numberWithin 20 = .ok (.iconst 2, 1) := by decide +kernel
theorem dX2_numberWithin_21 : decode cX2_numberWithin 21 = .ok (.putfield 19, 3) := by decide +kernel
theorem dX2_numberWithin_24 : decode cX2_numberWithin 24 = .ok (.aload_n 0, 1) := by decide +kernel
theorem dX2_numberWithin_25 : decode cX2_numberWithin 25 = .ok (.getfield 19, 3) := by decide +kernel
theorem dX2_numberWithin_28 : decode cX2_numberWithin 28 = .ok (.ifCond .ne 20, 3) := by decide +kernel
theorem dX2_numberWithin_31 : decode cX2_numberWithin 31 = .ok (.aload_n 0, 1) := by decide +kernel
theorem dX2_numberWithin_32 : decode cX2_numberWithin 32 = .ok (.getfield 31, 3) := by decide +kernel
theorem dX2_numberWithin_35 : decode cX2_numberWithin 35 = .ok (.iload_n 1, 1) := by decide +kernel
theorem dX2_numberWithin_36 : decode cX2_numberWithin 36 = .ok (.iload_n 2, 1) := by decide +kernel
theorem dX2_numberWithin_37 : decode cX2_numberWithin 37 = .ok (.invokestatic 104, 3) := by decide +kernel
theorem dX2_numberWithin_40 : decode cX2_numberWithin 40 = .ok (.ifCond .ne 8, 3) := by decide +kernel
theorem dX2_numberWithin_43 : decode cX2_numberWithin 43 = .ok (.aload_n 0, 1) := by decide +kernel
theorem dX2_numberWithin_44 : decode cX2_numberWithin 44 = .ok (.iconst 3, 1) := by decide +kernel
theorem dX2_numberWithin_45 : decode cX2_numberWithin 45 = .ok (.putfield 19, 3) := by decide +kernel
theorem dX2_numberWithin_48 : decode cX2_numberWithin 48 = .ok (.aload_n 0, 1) := by decide +kernel
theorem dX2_numberWithin_49 : decode cX2_numberWithin 49 = .ok (.getfield 31, 3) := by decide +kernel
theorem dX2_numberWithin_52 : decode cX2_numberWithin 52 = .ok (.ireturn, 1) := by decide +kernel
theorem dX2_takeStop_0 : decode cX2_takeStop 0 = .ok (.aload_n 0, 1) := by decide +kernel
theorem dX2_takeStop_1 : decode cX2_takeStop 1 = .ok (.invokevirtual 43, 3) := by decide +kernel
theorem dX2_takeStop_4 : decode cX2_takeStop 4 = .ok (.aload_n 0, 1) := by decide +kernel
theorem dX2_takeStop_5 : decode cX2_takeStop 5 = .ok (.getfield 19, 3) := by decide +kernel
theorem dX2_takeStop_8 : decode cX2_takeStop 8 = .ok (.ifCond .ne 16, 3) := by decide +kernel
theorem dX2_takeStop_11 : decode cX2_takeStop 11 = .ok (.aload_n 0, 1) := by decide +kernel
theorem dX2_takeStop_12 : decode cX2_takeStop 12 = .ok (.getfield 25, 3) := by decide +kernel
theorem dX2_takeStop_15 : decode cX2_takeStop 15 = .ok (.iconst 3, 1) := by decide +kernel
theorem dX2_takeStop_16 : decode cX2_takeStop 16 = .ok (.if_icmp .eq 8, 3) := by decide +kernel
theorem dX2_takeStop_19 : decode cX2_takeStop 19 = .ok (.aload_n 0, 1) := by decide +kernel
theorem dX2_takeStop_20 : decode cX2_takeStop 20 = .ok (.iconst 2, 1) := by decide +kernel
theorem dX2_takeStop_21 : decode cX2_takeStop 21 = .ok (.putfield 19, 3) := by decide +kernel
theorem dX2_takeStop_24 : decode cX2_takeStop 24 = .ok (.return_, 1) := by decide +kernel
theorem dX2_lineOfName_0 : decode cX2_lineOfName 0 = .ok (.aload_n 0, 1) := by decide +kernel
theorem dX2_lineOfName_1 : decode cX2_lineOfName 1 = .ok (.getfield 25, 3) := by decide +kernel
theorem dX2_lineOfName_4 : decode cX2_lineOfName 4 = .ok (.iconst 1, 1) := by decide +kernel
theorem dX2_lineOfName_5 : decode cX2_lineOfName 5 = .ok (.if_icmp .ne 30, 3) := by decide +kernel
theorem dX2_lineOfName_8 : decode cX2_lineOfName 8 = .ok (.iconst 0, 1) := by decide +kernel
theorem dX2_lineOfName_9 : decode cX2_lineOfName 9 = .ok (.istore_n 1, 1) := by decide +kernel
theorem dX2_lineOfName_10 : decode cX2_lineOfName 10 = .ok (.iload_n 1, 1) := by decide +kernel
theorem dX2_lineOfName_11 : decode cX2_lineOfName 11 = .ok (.bipush 8, 2) := by decide +kernel
theorem dX2_lineOfName_13 : decode cX2_lineOfName 13 = .ok (.if_icmp .ge 22, 3) := by decide +kernel
theorem dX2_lineOfName_16 : decode cX2_lineOfName 16 = .ok (.aload_n 0, 1) := by decide +kernel
theorem dX2_lineOfName_17 : decode cX2_lineOfName 17 = .ok (.iload_n 1, 1) := by decide +kernel
theorem dX2_lineOfName_18 : decode cX2_lineOfName 18 = .ok (.invokestatic 108, 3) := by decide +kernel
theorem dX2_lineOfName_21 : decode cX2_lineOfName 21 = .ok (.invokevirtual 112, 3) := by decide +kernel
theorem dX2_lineOfName_24 : decode cX2_lineOfName 24 = .ok (.ifCond .eq 5, 3) := by decide +kernel
theorem dX2_lineOfName_27 : decode cX2_lineOfName 27 = .ok (.iload_n 1, 1) := by decide +kernel
theorem dX2_lineOfName_28 : decode cX2_lineOfName 28 = .ok (.ireturn, 1) := by decide +kernel
theorem dX2_lineOfName_29 : decode cX2_lineOfName 29 = .ok (.iinc 1 1, 3) := by decide +kernel
theorem dX2_lineOfName_32 : decode cX2_lineOfName 32 = .ok (.goto (-22), 3) := by decide +kernel
theorem dX2_lineOfName_35 : decode cX2_lineOfName 35 = .ok (.bipush 8, 2) := by decide +kernel
theorem dX2_lineOfName_37 : decode cX2_lineOfName 37 = .ok (.ireturn, 1) := by decide +kernel
theorem dX2_nameOfLine_0 : decode cX2_nameOfLine 0 = .ok (.iload_n 0, 1) := by decide +kernel
theorem dX2_nameOfLine_1 : decode cX2_nameOfLine 1 = .ok (.tableswitch 64 0 6 #[43, 46, 49, 52, 55, 58, 61], 43) := by decide +kernel
theorem dX2_nameOfLine_44 : decode cX2_nameOfLine 44 = .ok (.ldc 116, 2) := by decide +kernel
theorem dX2_nameOfLine_46 : decode cX2_nameOfLine 46 = .ok (.areturn, 1) := by decide +kernel
theorem dX2_nameOfLine_47 : decode cX2_nameOfLine 47 = .ok (.ldc 118, 2) := by decide +kernel
theorem dX2_nameOfLine_49 : decode cX2_nameOfLine 49 = .ok (.areturn, 1) := by decide +kernel
theorem dX2_nameOfLine_50 : decode cX2_nameOfLine 50 = .ok (.ldc 120, 2) := by decide +kernel
theorem dX2_nameOfLine_52 : decode cX2_nameOfLine 52 = .ok (.areturn, 1) := by decide +kernel
theorem dX2_nameOfLine_53 : decode cX2_nameOfLine 53 = .ok (.ldc 122, 2) := by decide +kernel
theorem dX2_nameOfLine_55 : decode cX2_nameOfLine 55 = .ok (.areturn, 1) := by decide +kernel
theorem dX2_nameOfLine_56 : decode cX2_nameOfLine 56 = .ok (.ldc 124, 2) := by decide +kernel
theorem dX2_nameOfLine_58 : decode cX2_nameOfLine 58 = .ok (.areturn, 1) := by decide +kernel
theorem dX2_nameOfLine_59 : decode cX2_nameOfLine 59 = .ok (.ldc 126, 2) := by decide +kernel
theorem dX2_nameOfLine_61 : decode cX2_nameOfLine 61 = .ok (.areturn, 1) := by decide +kernel
theorem dX2_nameOfLine_62 : decode cX2_nameOfLine 62 = .ok (.ldc 128, 2) := by decide +kernel
theorem dX2_nameOfLine_64 : decode cX2_nameOfLine 64 = .ok (.areturn, 1) := by decide +kernel
theorem dX2_nameOfLine_65 : decode cX2_nameOfLine 65 = .ok (.ldc 130, 2) := by decide +kernel
theorem dX2_nameOfLine_67 : decode cX2_nameOfLine 67 = .ok (.areturn, 1) := by decide +kernel
theorem dX2_tokenIs_0 : decode cX2_tokenIs 0 = .ok (.aload_n 0, 1) := by decide +kernel
theorem dX2_tokenIs_1 : decode cX2_tokenIs 1 = .ok (.getfield 22, 3) := by decide +kernel
theorem dX2_tokenIs_4 : decode cX2_tokenIs 4 = .ok (.aload_n 0, 1) := by decide +kernel
theorem dX2_tokenIs_5 : decode cX2_tokenIs 5 = .ok (.getfield 28, 3) := by decide +kernel
theorem dX2_tokenIs_8 : decode cX2_tokenIs 8 = .ok (.isub, 1) := by decide +kernel
theorem dX2_tokenIs_9 : decode cX2_tokenIs 9 = .ok (.aload_n 1, 1) := by decide +kernel
theorem dX2_tokenIs_10 : decode cX2_tokenIs 10 = .ok (.invokevirtual 132, 3) := by decide +kernel
theorem dX2_tokenIs_13 : decode cX2_tokenIs 13 = .ok (.if_icmp .eq 5, 3) := by decide +kernel
theorem dX2_tokenIs_16 : decode cX2_tokenIs 16 = .ok (.iconst 0, 1) := by decide +kernel
theorem dX2_tokenIs_17 : decode cX2_tokenIs 17 = .ok (.ireturn, 1) := by decide +kernel
theorem dX2_tokenIs_18 : decode cX2_tokenIs 18 = .ok (.iconst 0, 1) := by decide +kernel
theorem dX2_tokenIs_19 : decode cX2_tokenIs 19 = .ok (.istore_n 2, 1) := by decide +kernel
theorem dX2_tokenIs_20 : decode cX2_tokenIs 20 = .ok (.iload_n 2, 1) := by decide +kernel
theorem dX2_tokenIs_21 : decode cX2_tokenIs 21 = .ok (.aload_n 1, 1) := by decide +kernel
theorem dX2_tokenIs_22 : decode cX2_tokenIs 22 = .ok (.invokevirtual 132, 3) := by decide +kernel
theorem dX2_tokenIs_25 : decode cX2_tokenIs 25 = .ok (.if_icmp .ge 30, 3) := by decide +kernel
theorem dX2_tokenIs_28 : decode cX2_tokenIs 28 = .ok (.aload_n 0, 1) := by decide +kernel
theorem dX2_tokenIs_29 : decode cX2_tokenIs 29 = .ok (.getfield 9, 3) := by decide +kernel
theorem dX2_tokenIs_32 : decode cX2_tokenIs 32 = .ok (.aload_n 0, 1) := by decide +kernel
theorem dX2_tokenIs_33 : decode cX2_tokenIs 33 = .ok (.getfield 28, 3) := by decide +kernel
theorem dX2_tokenIs_36 : decode cX2_tokenIs 36 = .ok (.iload_n 2, 1) := by decide +kernel
theorem dX2_tokenIs_37 : decode cX2_tokenIs 37 = .ok (.iadd, 1) := by decide +kernel
theorem dX2_tokenIs_38 : decode cX2_tokenIs 38 = .ok (.iaload, 1) := by decide +kernel
theorem dX2_tokenIs_39 : decode cX2_tokenIs 39 = .ok (.aload_n 1, 1) := by decide +kernel
theorem dX2_tokenIs_40 : decode cX2_tokenIs 40 = .ok (.iload_n 2, 1) := by decide +kernel
theorem dX2_tokenIs_41 : decode cX2_tokenIs 41 = .ok (.invokevirtual 136, 3) := by decide +kernel
theorem dX2_tokenIs_44 : decode cX2_tokenIs 44 = .ok (.if_icmp .eq 5, 3) := by decide +kernel
theorem dX2_tokenIs_47 : decode cX2_tokenIs 47 = .ok (.iconst 0, 1) := by decide +kernel
theorem dX2_tokenIs_48 : decode cX2_tokenIs 48 = .ok (.ireturn, 1) := by decide +kernel
theorem dX2_tokenIs_49 : decode cX2_tokenIs 49 = .ok (.iinc 2 1, 3) := by decide +kernel
theorem dX2_tokenIs_52 : decode cX2_tokenIs 52 = .ok (.goto (-32), 3) := by decide +kernel
theorem dX2_tokenIs_55 : decode cX2_tokenIs 55 = .ok (.iconst 1, 1) := by decide +kernel
theorem dX2_tokenIs_56 : decode cX2_tokenIs 56 = .ok (.ireturn, 1) := by decide +kernel
theorem dX3_init_0 : decode cX3_init 0 = .ok (.aload_n 0, 1) := by decide +kernel
theorem dX3_init_1 : decode cX3_init 1 = .ok (.invokespecial 1, 3) := by decide +kernel
theorem dX3_init_4 : decode cX3_init 4 = .ok (.aload_n 0, 1) := by decide +kernel
theorem dX3_init_5 : decode cX3_init 5 = .ok (.new 7, 3) := by decide +kernel
theorem dX3_init_8 : decode cX3_init 8 = .ok (.dup, 1) := by decide +kernel
theorem dX3_init_9 : decode cX3_init 9 = .ok (.invokespecial 9, 3) := by decide +kernel
theorem dX3_init_12 : decode cX3_init 12 = .ok (.putfield 10, 3) := by decide +kernel
theorem dX3_init_15 : decode cX3_init 15 = .ok (.aload_n 0, 1) := by decide +kernel
theorem dX3_init_16 : decode cX3_init 16 = .ok (.new 7, 3) := by decide +kernel
theorem dX3_init_19 : decode cX3_init 19 = .ok (.dup, 1) := by decide +kernel
theorem dX3_init_20 : decode cX3_init 20 = .ok (.invokespecial 9, 3) := by decide +kernel
theorem dX3_init_23 : decode cX3_init 23 = .ok (.putfield 16, 3) := by decide +kernel
theorem dX3_init_26 : decode cX3_init 26 = .ok (.aload_n 0, 1) := by decide +kernel
theorem dX3_init_27 : decode cX3_init 27 = .ok (.new 7, 3) := by decide +kernel
theorem dX3_init_30 : decode cX3_init 30 = .ok (.dup, 1) := by decide +kernel
theorem dX3_init_31 : decode cX3_init 31 = .ok (.invokespecial 9, 3) := by decide +kernel
theorem dX3_init_34 : decode cX3_init 34 = .ok (.putfield 19, 3) := by decide +kernel
theorem dX3_init_37 : decode cX3_init 37 = .ok (.aload_n 0, 1) := by decide +kernel
theorem dX3_init_38 : decode cX3_init 38 = .ok (.iconst 2, 1) := by decide +kernel
theorem dX3_init_39 : decode cX3_init 39 = .ok (.anewarray 7, 3) := by decide +kernel
theorem dX3_init_42 : decode cX3_init 42 = .ok (.putfield 22, 3) := by decide +kernel
theorem dX3_init_45 : decode cX3_init 45 = .ok (.aload_n 0, 1) := by decide +kernel
theorem dX3_init_46 : decode cX3_init 46 = .ok (.iconst 2, 1) := by decide +kernel
theorem dX3_init_47 : decode cX3_init 47 = .ok (.newarray .boolean, 2) := by decide +kernel
theorem dX3_init_49 : decode cX3_init 49 = .ok (.putfield 26, 3) := by decide +kernel
theorem dX3_init_52 : decode cX3_init 52 = .ok (.aload_n 0, 1) := by decide +kernel
theorem dX3_init_53 : decode cX3_init 53 = .ok (.new 30, 3) := by decide +kernel
theorem dX3_init_56 : decode cX3_init 56 = .ok (.dup, 1) := by decide +kernel
theorem dX3_init_57 : decode cX3_init 57 = .ok (.invokespecial 32, 3) := by decide +kernel
theorem dX3_init_60 : decode cX3_init 60 = .ok (.putfield 33, 3) := by decide +kernel
theorem dX3_init_63 : decode cX3_init 63 = .ok (.aload_n 0, 1) := by decide +kernel
theorem dX3_init_64 : decode cX3_init 64 = .ok (.iconst 4, 1) := by decide +kernel
theorem dX3_init_65 : decode cX3_init 65 = .ok (.anewarray 37, 3) := by decide +kernel
theorem dX3_init_68 : decode cX3_init 68 = .ok (.putfield 39, 3) := by decide +kernel
theorem dX3_init_71 : decode cX3_init 71 = .ok (.aload_n 0, 1) := by decide +kernel
theorem dX3_init_72 : decode cX3_init 72 = .ok (.bipush 6, 2) := by decide +kernel
theorem dX3_init_74 : decode cX3_init 74 = .ok (.newarray .int, 2) := by decide +kernel
theorem dX3_init_76 : decode cX3_init 76 = .ok (.putfield 43, 3) := by decide +kernel
theorem dX3_init_79 : decode cX3_init 79 = .ok (.aload_n 0, 1) := by decide +kernel
theorem dX3_init_80 : decode cX3_init 80 = .ok (.bipush 6, 2) := by decide +kernel
theorem dX3_init_82 : decode cX3_init 82 = .ok (.newarray .int, 2) := by decide +kernel
theorem dX3_init_84 : decode cX3_init 84 = .ok (.putfield 47, 3) := by decide +kernel
theorem dX3_init_87 : decode cX3_init 87 = .ok (.aload_n 0, 1) := by decide +kernel
theorem dX3_init_88 : decode cX3_init 88 = .ok (.bipush 6, 2) := by decide +kernel
theorem dX3_init_90 : decode cX3_init 90 = .ok (.newarray .int, 2) := by decide +kernel
theorem dX3_init_92 : decode cX3_init 92 = .ok (.putfield 50, 3) := by decide +kernel
theorem dX3_init_95 : decode cX3_init 95 = .ok (.aload_n 0, 1) := by decide +kernel
theorem dX3_init_96 : decode cX3_init 96 = .ok (.iconst 0, 1) := by decide +kernel
theorem dX3_init_97 : decode cX3_init 97 = .ok (.putfield 53, 3) := by decide +kernel
theorem dX3_init_100 : decode cX3_init 100 = .ok (.aload_n 0, 1) := by decide +kernel
theorem dX3_init_101 : decode cX3_init 101 = .ok (.iconst 0, 1) := by decide +kernel
theorem dX3_init_102 : decode cX3_init 102 = .ok (.putfield 57, 3) := by decide +kernel
theorem dX3_init_105 : decode cX3_init 105 = .ok (.aload_n 0, 1) := by decide +kernel
theorem dX3_init_106 : decode cX3_init 106 = .ok (.iconst 0, 1) := by decide +kernel
theorem dX3_init_107 : decode cX3_init 107 = .ok (.putfield 60, 3) := by decide +kernel
theorem dX3_init_110 : decode cX3_init 110 = .ok (.aload_n 0, 1) := by decide +kernel
theorem dX3_init_111 : decode cX3_init 111 = .ok (.sipush 410, 3) := by decide +kernel
theorem dX3_init_114 : decode cX3_init 114 = .ok (.newarray .int, 2) := by decide +kernel
theorem dX3_init_116 : decode cX3_init 116 = .ok (.putfield 63, 3) := by decide +kernel
theorem dX3_init_119 : decode cX3_init 119 = .ok (.iconst 0, 1) := by decide +kernel
theorem dX3_init_120 : decode cX3_init 120 = .ok (.istore_n 1, 1) := by decide +kernel
theorem dX3_init_121 : decode cX3_init 121 = .ok (.iload_n 1, 1) := by decide +kernel
theorem dX3_init_122 : decode cX3_init 122 = .ok (.iconst 2, 1) := by decide +kernel
theorem dX3_init_123 : decode cX3_init 123 = .ok (.if_icmp .ge 22, 3) := by decide +kernel
theorem dX3_init_126 : decode cX3_init 126 = .ok (.aload_n 0, 1) := by decide +kernel
theorem dX3_init_127 : decode cX3_init 127 = .ok (.getfield 22, 3) := by decide +kernel
theorem dX3_init_130 : decode cX3_init 130 = .ok (.iload_n 1, 1) := by decide +kernel
theorem dX3_init_131 : decode cX3_init 131 = .ok (.new 7, 3) := by decide +kernel
theorem dX3_init_134 : decode cX3_init 134 = .ok (.dup, 1) := by decide +kernel
theorem dX3_init_135 : decode cX3_init 135 = .ok (.invokespecial 9, 3) := by decide +kernel
theorem dX3_init_138 : decode cX3_init 138 = .ok (.aastore, 1) := by decide +kernel
theorem dX3_init_139 : decode cX3_init 139 = .ok (.iinc 1 1, 3) := by decide +kernel
theorem dX3_init_142 : decode cX3_init 142 = .ok (.goto (-21), 3) := by decide +kernel
theorem dX3_init_145 : decode cX3_init 145 = .ok (.iconst 0, 1) := by decide +kernel
theorem dX3_init_146 : decode cX3_init 146 = .ok (.istore_n 1, 1) := by decide +kernel
theorem dX3_init_147 : decode cX3_init 147 = .ok (.iload_n 1, 1) := by decide +kernel
theorem dX3_init_148 : decode cX3_init 148 = .ok (.iconst 4, 1) := by decide +kernel
theorem dX3_init_149 : decode cX3_init 149 = .ok (.if_icmp .ge 22, 3) := by decide +kernel
theorem dX3_init_152 : decode cX3_init 152 = .ok (.aload_n 0, 1) := by decide +kernel
theorem dX3_init_153 : decode cX3_init 153 = .ok (.getfield 39, 3) := by decide +kernel
theorem dX3_init_156 : decode cX3_init 156 = .ok (.iload_n 1, 1) := by decide +kernel
theorem dX3_init_157 : decode cX3_init 157 = .ok (.new 37, 3) := by decide +kernel
theorem dX3_init_160 : decode cX3_init 160 = .ok (.dup, 1) := by decide +kernel
theorem dX3_init_161 : decode cX3_init 161 = .ok (.invokespecial 66, 3) := by decide +kernel
theorem dX3_init_164 : decode cX3_init 164 = .ok (.aastore, 1) := by decide +kernel
theorem dX3_init_165 : decode cX3_init 165 = .ok (.iinc 1 1, 3) := by decide +kernel
theorem dX3_init_168 : decode cX3_init 168 = .ok (.goto (-21), 3) := by decide +kernel
theorem dX3_init_171 : decode cX3_init 171 = .ok (.return_, 1) := by decide +kernel
theorem dX3_feed_0 : decode cX3_feed 0 = .ok (.iload_n 1, 1) := by decide +kernel
theorem dX3_feed_1 : decode cX3_feed 1 = .ok (.iconst 0, 1) := by decide +kernel
theorem dX3_feed_2 : decode cX3_feed 2 = .ok (.bipush 127, 2) := by decide +kernel
theorem dX3_feed_4 : decode cX3_feed 4 = .ok (.invokestatic 67, 3) := by decide +kernel
theorem dX3_feed_7 : decode cX3_feed 7 = .ok (.ifCond .ne 5, 3) := by decide +kernel
theorem dX3_feed_10 : decode cX3_feed 10 = .ok (.iconst (-1), 1) := by decide +kernel
theorem dX3_feed_11 : decode cX3_feed 11 = .ok (.ireturn, 1) := by decide +kernel
theorem dX3_feed_12 : decode cX3_feed 12 = .ok (.aload_n 0, 1) := by decide +kernel
theorem dX3_feed_13 : decode cX3_feed 13 = .ok (.getfield 33, 3) := by decide +kernel
theorem dX3_feed_16 : decode cX3_feed 16 = .ok (.iload_n 1, 1) := by decide +kernel
theorem dX3_feed_17 : decode cX3_feed 17 = .ok (.invokevirtual 71, 3) := by decide +kernel
theorem dX3_feed_20 : decode cX3_feed 20 = .ok (.ireturn, 1) := by decide +kernel
theorem dX3_end_0 : decode cX3_end 0 = .ok (.iload_n 1, 1) := by decide +kernel
theorem dX3_end_1 : decode cX3_end 1 = .ok (.iconst 0, 1) := by decide +kernel
theorem dX3_end_2 : decode cX3_end 2 = .ok (.aload_n 0, 1) := by decide +kernel
theorem dX3_end_3 : decode cX3_end 3 = .ok (.getfield 33, 3) := by decide +kernel
theorem dX3_end_6 : decode cX3_end 6 = .ok (.getfield 75, 3) := by decide +kernel
theorem dX3_end_9 : decode cX3_end 9 = .ok (.invokestatic 67, 3) := by decide +kernel
theorem dX3_end_12 : decode cX3_end 12 = .ok (.ifCond .ne 5, 3) := by decide +kernel
theorem dX3_end_15 : decode cX3_end 15 = .ok (.iconst (-1), 1) := by decide +kernel
theorem dX3_end_16 : decode cX3_end 16 = .ok (.ireturn, 1) := by decide +kernel
theorem dX3_end_17 : decode cX3_end 17 = .ok (.aload_n 0, 1) := by decide +kernel
theorem dX3_end_18 : decode cX3_end 18 = .ok (.getfield 33, 3) := by decide +kernel
theorem dX3_end_21 : decode cX3_end 21 = .ok (.getfield 75, 3) := by decide +kernel
theorem dX3_end_24 : decode cX3_end 24 = .ok (.istore_n 2, 1) := by decide +kernel
theorem dX3_end_25 : decode cX3_end 25 = .ok (.aload_n 0, 1) := by decide +kernel
theorem dX3_end_26 : decode cX3_end 26 = .ok (.getfield 33, 3) := by decide +kernel
theorem dX3_end_29 : decode cX3_end 29 = .ok (.iload_n 1, 1) := by decide +kernel
theorem dX3_end_30 : decode cX3_end 30 = .ok (.putfield 75, 3) := by decide +kernel
theorem dX3_end_33 : decode cX3_end 33 = .ok (.iload_n 2, 1) := by decide +kernel
theorem dX3_end_34 : decode cX3_end 34 = .ok (.ireturn, 1) := by decide +kernel
theorem dX3_text_0 : decode cX3_text 0 = .ok (.aload_n 0, 1) := by decide +kernel
theorem dX3_text_1 : decode cX3_text 1 = .ok (.getfield 33, 3) := by decide +kernel
theorem dX3_text_4 : decode cX3_text 4 = .ok (.aload_n 0, 1) := by decide +kernel
theorem dX3_text_5 : decode cX3_text 5 = .ok (.getfield 19, 3) := by decide +kernel
theorem dX3_text_8 : decode cX3_text 8 = .ok (.invokevirtual 78, 3) := by decide +kernel
theorem dX3_text_11 : decode cX3_text 11 = .ok (.istore_n 1, 1) := by decide +kernel
theorem dX3_text_12 : decode cX3_text 12 = .ok (.aload_n 0, 1) := by decide +kernel
theorem dX3_text_13 : decode cX3_text 13 = .ok (.aload_n 0, 1) := by decide +kernel
theorem dX3_text_14 : decode cX3_text 14 = .ok (.getfield 33, 3) := by decide +kernel
theorem dX3_text_17 : decode cX3_text 17 = .ok (.getfield 82, 3) := by decide +kernel
theorem dX3_text_20 : decode cX3_text 20 = .ok (.putfield 57, 3) := by decide +kernel
theorem dX3_text_23 : decode cX3_text 23 = .ok (.aload_n 0, 1) := by decide +kernel
theorem dX3_text_24 : decode cX3_text 24 = .ok (.getfield 33, 3) := by decide +kernel
theorem dX3_text_27 : decode cX3_text 27 = .ok (.iconst 0, 1) := by decide +kernel
theorem dX3_text_28 : decode cX3_text 28 = .ok (.putfield 75, 3) := by decide +kernel
theorem dX3_text_31 : decode cX3_text 31 = .ok (.aload_n 0, 1) := by decide +kernel
theorem dX3_text_32 : decode cX3_text 32 = .ok (.getfield 57, 3) := by decide +kernel
theorem dX3_text_35 : decode cX3_text 35 = .ok (.ifCond .ne 39, 3) := by decide +kernel
theorem dX3_text_38 : decode cX3_text 38 = .ok (.aload_n 0, 1) := by decide +kernel
theorem dX3_text_39 : decode cX3_text 39 = .ok (.getfield 10, 3) := by decide +kernel
theorem dX3_text_42 : decode cX3_text 42 = .ok (.aload_n 0, 1) := by decide +kernel
theorem dX3_text_43 : decode cX3_text 43 = .ok (.getfield 19, 3) := by decide +kernel
theorem dX3_text_46 : decode cX3_text 46 = .ok (.invokevirtual 85, 3) := by decide +kernel
theorem dX3_text_49 : decode cX3_text 49 = .ok (.aload_n 0, 1) := by decide +kernel
theorem dX3_text_50 : decode cX3_text 50 = .ok (.iconst 0, 1) := by decide +kernel
theorem dX3_text_51 : decode cX3_text 51 = .ok (.putfield 53, 3) := by decide +kernel
theorem dX3_text_54 : decode cX3_text 54 = .ok (.iconst 0, 1) := by decide +kernel
theorem dX3_text_55 : decode cX3_text 55 = .ok (.istore_n 2, 1) := by decide +kernel
theorem dX3_text_56 : decode cX3_text 56 = .ok (.iload_n 2, 1) := by decide +kernel
theorem dX3_text_57 : decode cX3_text 57 = .ok (.iconst 2, 1) := by decide +kernel
theorem dX3_text_58 : decode cX3_text 58 = .ok (.if_icmp .ge 16, 3) := by decide +kernel
theorem dX3_text_61 : decode cX3_text 61 = .ok (.aload_n 0, 1) := by decide +kernel
theorem dX3_text_62 : decode cX3_text 62 = .ok (.getfield 26, 3) := by decide +kernel
theorem dX3_text_65 : decode cX3_text 65 = .ok (.iload_n 2, 1) := by decide +kernel
theorem dX3_text_66 : decode cX3_text 66 = .ok (.iconst 0, 1) := by decide +kernel
theorem dX3_text_67 : decode cX3_text 67 = .ok (.bastore, 1) := by decide +kernel
theorem dX3_text_68 : decode cX3_text 68 = .ok (.iinc 2 1, 3) := by decide +kernel
theorem dX3_text_71 : decode cX3_text 71 = .ok (.goto (-15), 3) := by decide +kernel
theorem dX3_text_74 : decode cX3_text 74 = .ok (.iload_n 1, 1) := by decide +kernel
theorem dX3_text_75 : decode cX3_text 75 = .ok (.ireturn, 1) := by decide +kernel
theorem dX3_fault_0 : decode cX3_fault 0 = .ok (.aload_n 0, 1) := by decide +kernel
theorem dX3_fault_1 : decode cX3_fault 1 = .ok (.getfield 57, 3) := by decide +kernel
theorem dX3_fault_4 : decode cX3_fault 4 = .ok (.ireturn, 1) := by decide +kernel
theorem dX3_rule_0 : decode cX3_rule 0 = .ok (.iload_n 1, 1) := by decide +kernel
theorem dX3_rule_1 : decode cX3_rule 1 = .ok (.tableswitch 138 0 8 #[51, 59, 67, 75, 83, 91, 99, 107, 115], 51) := by decide +kernel
theorem dX3_rule_52 : decode cX3_rule 52 = .ok (.aload_n 0, 1) := by decide +kernel
theorem dX3_rule_53 : decode cX3_rule 53 = .ok (.getfield 10, 3) := by decide +kernel
theorem dX3_rule_56 : decode cX3_rule 56 = .ok (.getfield 89, 3) := by decide +kernel
theorem dX3_rule_59 : decode cX3_rule 59 = .ok (.ireturn, 1) := by decide +kernel
theorem dX3_rule_60 : decode cX3_rule 60 = .ok (.aload_n 0, 1) := by decide +kernel
theorem dX3_rule_61 : decode cX3_rule 61 = .ok (.getfield 10, 3) := by decide +kernel
theorem dX3_rule_64 : decode cX3_rule 64 = .ok (.getfield 92, 3) := by decide +kernel
theorem dX3_rule_67 : decode cX3_rule 67 = .ok (.ireturn, 1) := by decide +kernel
theorem dX3_rule_68 : decode cX3_rule 68 = .ok (.aload_n 0, 1) := by decide +kernel
theorem dX3_rule_69 : decode cX3_rule 69 = .ok (.getfield 10, 3) := by decide +kernel
theorem dX3_rule_72 : decode cX3_rule 72 = .ok (.getfield 95, 3) := by decide +kernel
theorem dX3_rule_75 : decode cX3_rule 75 = .ok (.ireturn, 1) := by decide +kernel
theorem dX3_rule_76 : decode cX3_rule 76 = .ok (.aload_n 0, 1) := by decide +kernel
theorem dX3_rule_77 : decode cX3_rule 77 = .ok (.getfield 10, 3) := by decide +kernel
theorem dX3_rule_80 : decode cX3_rule 80 = .ok (.getfield 98, 3) := by decide +kernel
theorem dX3_rule_83 : decode cX3_rule 83 = .ok (.ireturn, 1) := by decide +kernel
theorem dX3_rule_84 : decode cX3_rule 84 = .ok (.aload_n 0, 1) := by decide +kernel
theorem dX3_rule_85 : decode cX3_rule 85 = .ok (.getfield 10, 3) := by decide +kernel
theorem dX3_rule_88 : decode cX3_rule 88 = .ok (.getfield 101, 3) := by decide +kernel
theorem dX3_rule_91 : decode cX3_rule 91 = .ok (.ireturn, 1) := by decide +kernel
theorem dX3_rule_92 : decode cX3_rule 92 = .ok (.aload_n 0, 1) := by decide +kernel
theorem dX3_rule_93 : decode cX3_rule 93 = .ok (.getfield 10, 3) := by decide +kernel
theorem dX3_rule_96 : decode cX3_rule 96 = .ok (.getfield 104, 3) := by decide +kernel
theorem dX3_rule_99 : decode cX3_rule 99 = .ok (.ireturn, 1) := by decide +kernel
theorem dX3_rule_100 : decode cX3_rule 100 = .ok (.aload_n 0, 1) := by decide +kernel
theorem dX3_rule_101 : decode cX3_rule 101 = .ok (.getfield 10, 3) := by decide +kernel
theorem dX3_rule_104 : decode cX3_rule 104 = .ok (.getfield 107, 3) := by decide +kernel
theorem dX3_rule_107 : decode cX3_rule 107 = .ok (.ireturn, 1) := by decide +kernel
theorem dX3_rule_108 : decode cX3_rule 108 = .ok (.aload_n 0, 1) := by decide +kernel
theorem dX3_rule_109 : decode cX3_rule 109 = .ok (.getfield 10, 3) := by decide +kernel
theorem dX3_rule_112 : decode cX3_rule 112 = .ok (.invokevirtual 110, 3) := by decide +kernel
theorem dX3_rule_115 : decode cX3_rule 115 = .ok (.ireturn, 1) := by decide +kernel
theorem dX3_rule_116 : decode cX3_rule 116 = .ok (.aload_n 0, 1) := by decide +kernel
theorem dX3_rule_117 : decode cX3_rule 117 = .ok (.getfield 10, 3) := by decide +kernel
theorem dX3_rule_120 : decode cX3_rule 120 = .ok (.getfield 92, 3) := by decide +kernel
theorem dX3_rule_123 : decode cX3_rule 123 = .ok (.ifCond .le 13, 3) := by decide +kernel
theorem dX3_rule_126 : decode cX3_rule 126 = .ok (.aload_n 0, 1) := by decide +kernel
theorem dX3_rule_127 : decode cX3_rule 127 = .ok (.getfield 10, 3) := by decide +kernel
theorem dX3_rule_130 : decode cX3_rule 130 = .ok (.invokevirtual 114, 3) := by decide +kernel
theorem dX3_rule_133 : decode cX3_rule 133 = .ok (.goto 5, 3) := by decide +kernel
theorem dX3_rule_136 : decode cX3_rule 136 = .ok (.bipush (-4), 2) := by decide +kernel
theorem dX3_rule_138 : decode cX3_rule 138 = .ok (.ireturn, 1) := by decide +kernel
theorem dX3_rule_139 : decode cX3_rule 139 = .ok (.iconst (-1), 1) := by decide +kernel
theorem dX3_rule_140 : decode cX3_rule 140 = .ok (.ireturn, 1) := by decide +kernel
theorem dX3_wheel_0 : decode cX3_wheel 0 = .ok (.aload_n 0, 1) := by decide +kernel
theorem dX3_wheel_1 : decode cX3_wheel 1 = .ok (.getfield 10, 3) := by decide +kernel
theorem dX3_wheel_4 : decode cX3_wheel 4 = .ok (.iload_n 1, 1) := by decide +kernel
theorem dX3_wheel_5 : decode cX3_wheel 5 = .ok (.invokevirtual 117, 3) := by decide +kernel
theorem dX3_wheel_8 : decode cX3_wheel 8 = .ok (.ifCond .ne 5, 3) := by decide +kernel
theorem dX3_wheel_11 : decode cX3_wheel 11 = .ok (.iconst (-1), 1) := by decide +kernel
theorem dX3_wheel_12 : decode cX3_wheel 12 = .ok (.ireturn, 1) := by decide +kernel
theorem dX3_wheel_13 : decode cX3_wheel 13 = .ok (.iload_n 2, 1) := by decide +kernel
theorem dX3_wheel_14 : decode cX3_wheel 14 = .ok (.tableswitch 109 0 5 #[38, 48, 58, 68, 78, 100], 38) := by decide +kernel
theorem dX3_wheel_52 : decode cX3_wheel 52 = .ok (.aload_n 0, 1) := by decide +kernel
theorem dX3_wheel_53 : decode cX3_wheel 53 = .ok (.getfield 10, 3) := by decide +kernel
theorem dX3_wheel_56 : decode cX3_wheel 56 = .ok (.getfield 121, 3) := by decide +kernel
theorem dX3_wheel_59 : decode cX3_wheel 59 = .ok (.iload_n 1, 1) := by decide +kernel
theorem dX3_wheel_60 : decode cX3_wheel 60 = .ok (.iaload, 1) := by decide +kernel
theorem dX3_wheel_61 : decode cX3_wheel 61 = .ok (.ireturn, 1) := by decide +kernel
theorem dX3_wheel_62 : decode cX3_wheel 62 = .ok (.aload_n 0, 1) := by decide +kernel
theorem dX3_wheel_63 : decode cX3_wheel 63 = .ok (.getfield 10, 3) := by decide +kernel
theorem dX3_wheel_66 : decode cX3_wheel 66 = .ok (.getfield 124, 3) := by decide +kernel
theorem dX3_wheel_69 : decode cX3_wheel 69 = .ok (.iload_n 1, 1) := by decide +kernel
theorem dX3_wheel_70 : decode cX3_wheel 70 = .ok (.iaload, 1) := by decide +kernel
theorem dX3_wheel_71 : decode cX3_wheel 71 = .ok (.ireturn, 1) := by decide +kernel
theorem dX3_wheel_72 : decode cX3_wheel 72 = .ok (.aload_n 0, 1) := by decide +kernel
theorem dX3_wheel_73 : decode cX3_wheel 73 = .ok (.getfield 10, 3) := by decide +kernel
theorem dX3_wheel_76 : decode cX3_wheel 76 = .ok (.getfield 127, 3) := by decide +kernel
theorem dX3_wheel_79 : decode cX3_wheel 79 = .ok (.iload_n 1, 1) := by decide +kernel
theorem dX3_wheel_80 : decode cX3_wheel 80 = .ok (.iaload, 1) := by decide +kernel
theorem dX3_wheel_81 : decode cX3_wheel 81 = .ok (.ireturn, 1) := by decide +kernel
theorem dX3_wheel_82 : decode cX3_wheel 82 = .ok (.aload_n 0, 1) := by decide +kernel
theorem dX3_wheel_83 : decode cX3_wheel 83 = .ok (.getfield 10, 3) := by decide +kernel
theorem dX3_wheel_86 : decode cX3_wheel 86 = .ok (.getfield 130, 3) := by decide +kernel
theorem dX3_wheel_89 : decode cX3_wheel 89 = .ok (.iload_n 1, 1) := by decide +kernel
theorem dX3_wheel_90 : decode cX3_wheel 90 = .ok (.iaload, 1) := by decide +kernel
theorem dX3_wheel_91 : decode cX3_wheel 91 = .ok (.ireturn, 1) := by decide +kernel
theorem dX3_wheel_92 : decode cX3_wheel 92 = .ok (.aload_n 0, 1) := by decide +kernel
theorem dX3_wheel_93 : decode cX3_wheel 93 = .ok (.getfield 10, 3) := by decide +kernel
theorem dX3_wheel_96 : decode cX3_wheel 96 = .ok (.getfield 130, 3) := by decide +kernel
theorem dX3_wheel_99 : decode cX3_wheel 99 = .ok (.iload_n 1, 1) := by decide +kernel
theorem dX3_wheel_100 : decode cX3_wheel 100 = .ok (.iaload, 1) := by decide +kernel
theorem dX3_wheel_101 : decode cX3_wheel 101 = .ok (.aload_n 0, 1) := by decide +kernel
theorem dX3_wheel_102 : decode cX3_wheel 102 = .ok (.getfield 10, 3) := by decide +kernel
theorem dX3_wheel_105 : decode cX3_wheel 105 = .ok (.getfield 124, 3) := by decide +kernel
theorem dX3_wheel_108 : decode cX3_wheel 108 = .ok (.iload_n 1, 1) := by decide +kernel
theorem dX3_wheel_109 : decode cX3_wheel 109 = .ok (.iaload, 1) := by decide +kernel
theorem dX3_wheel_110 : decode cX3_wheel 110 = .ok (.invokestatic 133, 3) := by decide +kernel
theorem dX3_wheel_113 : decode cX3_wheel 113 = .ok (.ireturn, 1) := by decide +kernel
theorem dX3_wheel_114 : decode cX3_wheel 114 = .ok (.aload_n 0, 1) := by decide +kernel
theorem dX3_wheel_115 : decode cX3_wheel 115 = .ok (.getfield 10, 3) := by decide +kernel
theorem dX3_wheel_118 : decode cX3_wheel 118 = .ok (.iload_n 1, 1) := by decide +kernel
theorem dX3_wheel_119 : decode cX3_wheel 119 = .ok (.invokevirtual 137, 3) := by decide +kernel
theorem dX3_wheel_122 : decode cX3_wheel 122 = .ok (.ireturn, 1) := by decide +kernel
theorem dX3_wheel_123 : decode cX3_wheel 123 = .ok (.iconst (-1), 1) := by decide +kernel
theorem dX3_wheel_124 : decode cX3_wheel 124 = .ok (.ireturn, 1) := by decide +kernel
theorem dX3_act_0 : decode cX3_act 0 = .ok (.aload_n 0, 1) := by decide +kernel
theorem dX3_act_1 : decode cX3_act 1 = .ok (.getfield 10, 3) := by decide +kernel
theorem dX3_act_4 : decode cX3_act 4 = .ok (.iload_n 1, 1) := by decide +kernel
theorem dX3_act_5 : decode cX3_act 5 = .ok (.invokevirtual 140, 3) := by decide +kernel
theorem dX3_act_8 : decode cX3_act 8 = .ok (.ifCond .eq 15, 3) := by decide +kernel
theorem dX3_act_11 : decode cX3_act 11 = .ok (.aload_n 0, 1) := by decide +kernel
theorem dX3_act_12 : decode cX3_act 12 = .ok (.getfield 10, 3) := by decide +kernel
theorem dX3_act_15 : decode cX3_act 15 = .ok (.getfield 143, 3) := by decide +kernel
theorem dX3_act_18 : decode cX3_act 18 = .ok (.iload_n 1, 1) := by decide +kernel
theorem dX3_act_19 : decode cX3_act 19 = .ok (.iaload, 1) := by decide +kernel
theorem dX3_act_20 : decode cX3_act 20 = .ok (.goto 4, 3) := by decide +kernel
theorem dX3_act_23 : decode cX3_act 23 = .ok (.iconst (-1), 1) := by decide +kernel
theorem dX3_act_24 : decode cX3_act 24 = .ok (.ireturn, 1) := by decide +kernel
theorem dX3_alter_0 : decode cX3_alter 0 = .ok (.aload_n 0, 1) := by decide +kernel
theorem dX3_alter_1 : decode cX3_alter 1 = .ok (.getfield 10, 3) := by decide +kernel
theorem dX3_alter_4 : decode cX3_alter 4 = .ok (.iload_n 1, 1) := by decide +kernel
theorem dX3_alter_5 : decode cX3_alter 5 = .ok (.invokevirtual 117, 3) := by decide +kernel
theorem dX3_alter_8 : decode cX3_alter 8 = .ok (.ifCond .ne 5, 3) := by decide +kernel
theorem dX3_alter_11 : decode cX3_alter 11 = .ok (.iconst (-1), 1) := by decide +kernel
theorem dX3_alter_12 : decode cX3_alter 12 = .ok (.ireturn, 1) := by decide +kernel
theorem dX3_alter_13 : decode cX3_alter 13 = .ok (.iload_n 2, 1) := by decide +kernel
theorem dX3_alter_14 : decode cX3_alter 14 = .ok (.tableswitch 138 0 3 #[30, 56, 83, 110], 30) := by decide +kernel
theorem dX3_alter_44 : decode cX3_alter 44 = .ok (.iload_n 3, 1) := by decide +kernel
theorem dX3_alter_45 : decode cX3_alter 45 = .ok (.iconst 0, 1) := by decide +kernel
theorem dX3_alter_46 : decode cX3_alter 46 = .ok (.iconst 3, 1) := by decide +kernel
theorem dX3_alter_47 : decode cX3_alter 47 = .ok (.invokestatic 67, 3) := by decide +kernel
theorem dX3_alter_50 : decode cX3_alter 50 = .ok (.ifCond .eq 18, 3) := by decide +kernel
theorem dX3_alter_53 : decode cX3_alter 53 = .ok (.aload_n 0, 1) := by decide +kernel
theorem dX3_alter_54 : decode cX3_alter 54 = .ok (.getfield 10, 3) := by decide +kernel
theorem dX3_alter_57 : decode cX3_alter 57 = .ok (.getfield 121, 3) := by decide +kernel
theorem dX3_alter_60 : decode cX3_alter 60 = .ok (.iload_n 1, 1) := by decide +kernel
theorem dX3_alter_61 : decode cX3_alter 61 = .ok (.iload_n 3, 1) := by decide +kernel
theorem dX3_alter_62 : decode cX3_alter 62 = .ok (.invokestatic 146, 3) := by decide +kernel
theorem dX3_alter_65 : decode cX3_alter 65 = .ok (.goto 4, 3) := by decide +kernel
theorem dX3_alter_68 : decode cX3_alter 68 = .ok (.iconst (-1), 1) := by decide +kernel
theorem dX3_alter_69 : decode cX3_alter 69 = .ok (.ireturn, 1) := by decide +kernel
theorem dX3_alter_70 : decode cX3_alter 70 = .ok (.iload_n 3, 1) := by decide +kernel
theorem dX3_alter_71 : decode cX3_alter 71 = .ok (.iconst 1, 1) := by decide +kernel
theorem dX3_alter_72 : decode cX3_alter 72 = .ok (.bipush 20, 2) := by decide +kernel
theorem dX3_alter_74 : decode cX3_alter 74 = .ok (.invokestatic 67, 3) := by decide +kernel
theorem dX3_alter_77 : decode cX3_alter 77 = .ok (.ifCond .eq 18, 3) := by decide +kernel
theorem dX3_alter_80 : decode cX3_alter 80 = .ok (.aload_n 0, 1) := by decide +kernel
theorem dX3_alter_81 : decode cX3_alter 81 = .ok (.getfield 10, 3) := by decide +kernel
theorem dX3_alter_84 : decode cX3_alter 84 = .ok (.getfield 124, 3) := by decide +kernel
theorem dX3_alter_87 : decode cX3_alter 87 = .ok (.iload_n 1, 1) := by decide +kernel
theorem dX3_alter_88 : decode cX3_alter 88 = .ok (.iload_n 3, 1) := by decide +kernel
theorem dX3_alter_89 : decode cX3_alter 89 = .ok (.invokestatic 146, 3) := by decide +kernel
theorem dX3_alter_92 : decode cX3_alter 92 = .ok (.goto 4, 3) := by decide +kernel
theorem dX3_alter_95 : decode cX3_alter 95 = .ok (.iconst (-1), 1) := by decide +kernel
theorem dX3_alter_96 : decode cX3_alter 96 = .ok (.ireturn, 1) := by decide +kernel
theorem dX3_alter_97 : decode cX3_alter 97 = .ok (.iload_n 3, 1) := by decide +kernel
theorem dX3_alter_98 : decode cX3_alter 98 = .ok (.iconst 0, 1) := by decide +kernel
theorem dX3_alter_99 : decode cX3_alter 99 = .ok (.bipush 9, 2) := by decide +kernel
theorem dX3_alter_101 : decode cX3_alter 101 = .ok (.invokestatic 67, 3) := by decide +kernel
theorem dX3_alter_104 : decode cX3_alter 104 = .ok (.ifCond .eq 18, 3) := by decide +kernel
theorem dX3_alter_107 : decode cX3_alter 107 = .ok (.aload_n 0, 1) := by decide +kernel
theorem dX3_alter_108 : decode cX3_alter 108 = .ok (.getfield 10, 3) := by decide +kernel
theorem dX3_alter_111 : decode cX3_alter 111 = .ok (.getfield 127, 3) := by decide +kernel
theorem dX3_alter_114 : decode cX3_alter 114 = .ok (.iload_n 1, 1) := by decide +kernel
theorem dX3_alter_115 : decode cX3_alter 115 = .ok (.iload_n 3, 1) := by decide +kernel
theorem dX3_alter_116 : decode cX3_alter 116 = .ok (.invokestatic 146, 3) := by decide +kernel
theorem dX3_alter_119 : decode cX3_alter 119 = .ok (.goto 4, 3) := by decide +kernel
theorem dX3_alter_122 : decode cX3_alter 122 = .ok (.iconst (-1), 1) := by decide +kernel
theorem dX3_alter_123 : decode cX3_alter 123 = .ok (.ireturn, 1) := by decide +kernel
theorem dX3_alter_124 : decode cX3_alter 124 = .ok (.iload_n 3, 1) := by decide +kernel
theorem dX3_alter_125 : decode cX3_alter 125 = .ok (.iconst 0, 1) := by decide +kernel
theorem dX3_alter_126 : decode cX3_alter 126 = .ok (.sipush 9999, 3) := by decide +kernel
theorem dX3_alter_129 : decode cX3_alter 129 = .ok (.invokestatic 67, 3) := by decide +kernel
theorem dX3_alter_132 : decode cX3_alter 132 = .ok (.ifCond .eq 18, 3) := by decide +kernel
theorem dX3_alter_135 : decode cX3_alter 135 = .ok (.aload_n 0, 1) := by decide +kernel
theorem dX3_alter_136 : decode cX3_alter 136 = .ok (.getfield 10, 3) := by decide +kernel
theorem dX3_alter_139 : decode cX3_alter 139 = .ok (.getfield 130, 3) := by decide +kernel
theorem dX3_alter_142 : decode cX3_alter 142 = .ok (.iload_n 1, 1) := by decide +kernel
theorem dX3_alter_143 : decode cX3_alter 143 = .ok (.iload_n 3, 1) := by decide +kernel
theorem dX3_alter_144 : decode cX3_alter 144 = .ok (.invokestatic 146, 3) := by decide +kernel
theorem dX3_alter_147 : decode cX3_alter 147 = .ok (.goto 4, 3) := by decide +kernel
theorem dX3_alter_150 : decode cX3_alter 150 = .ok (.iconst (-1), 1) := by decide +kernel
theorem dX3_alter_151 : decode cX3_alter 151 = .ok (.ireturn, 1) := by decide +kernel
theorem dX3_alter_152 : decode cX3_alter 152 = .ok (.iconst (-1), 1) := by decide +kernel
theorem dX3_alter_153 : decode cX3_alter 153 = .ok (.ireturn, 1) := by decide +kernel
theorem dX3_shaft_0 : decode cX3_shaft 0 = .ok (.iload_n 1, 1) := by decide +kernel
theorem dX3_shaft_1 : decode cX3_shaft 1 = .ok (.iconst 1, 1) := by decide +kernel
theorem dX3_shaft_2 : decode cX3_shaft 2 = .ok (.bipush 20, 2) := by decide +kernel
theorem dX3_shaft_4 : decode cX3_shaft 4 = .ok (.invokestatic 67, 3) := by decide +kernel
theorem dX3_shaft_7 : decode cX3_shaft 7 = .ok (.ifCond .ne 5, 3) := by decide +kernel
theorem dX3_shaft_10 : decode cX3_shaft 10 = .ok (.iconst (-1), 1) := by decide +kernel
theorem dX3_shaft_11 : decode cX3_shaft 11 = .ok (.ireturn, 1) := by decide +kernel
theorem dX3_shaft_12 : decode cX3_shaft 12 = .ok (.aload_n 0, 1) := by decide +kernel
theorem dX3_shaft_13 : decode cX3_shaft 13 = .ok (.getfield 10, 3) := by decide +kernel
theorem dX3_shaft_16 : decode cX3_shaft 16 = .ok (.getfield 104, 3) := by decide +kernel
theorem dX3_shaft_19 : decode cX3_shaft 19 = .ok (.istore_n 2, 1) := by decide +kernel
theorem dX3_shaft_20 : decode cX3_shaft 20 = .ok (.aload_n 0, 1) := by decide +kernel
theorem dX3_shaft_21 : decode cX3_shaft 21 = .ok (.getfield 10, 3) := by decide +kernel
theorem dX3_shaft_24 : decode cX3_shaft 24 = .ok (.iload_n 1, 1) := by decide +kernel
theorem dX3_shaft_25 : decode cX3_shaft 25 = .ok (.putfield 104, 3) := by decide +kernel
theorem dX3_shaft_28 : decode cX3_shaft 28 = .ok (.iload_n 2, 1) := by decide +kernel
theorem dX3_shaft_29 : decode cX3_shaft 29 = .ok (.ireturn, 1) := by decide +kernel
theorem dX3_put_0 : decode cX3_put 0 = .ok (.iload_n 1, 1) := by decide +kernel
theorem dX3_put_1 : decode cX3_put 1 = .ok (.iconst 0, 1) := by decide +kernel
theorem dX3_put_2 : decode cX3_put 2 = .ok (.iconst 3, 1) := by decide +kernel
theorem dX3_put_3 : decode cX3_put 3 = .ok (.invokestatic 67, 3) := by decide +kernel
theorem dX3_put_6 : decode cX3_put 6 = .ok (.ifCond .eq 23, 3) := by decide +kernel
theorem dX3_put_9 : decode cX3_put 9 = .ok (.iload_n 2, 1) := by decide +kernel
theorem dX3_put_10 : decode cX3_put 10 = .ok (.iconst 1, 1) := by decide +kernel
theorem dX3_put_11 : decode cX3_put 11 = .ok (.bipush 20, 2) := by decide +kernel
theorem dX3_put_13 : decode cX3_put 13 = .ok (.invokestatic 67, 3) := by decide +kernel
theorem dX3_put_16 : decode cX3_put 16 = .ok (.ifCond .eq 13, 3) := by decide +kernel
theorem dX3_put_19 : decode cX3_put 19 = .ok (.iload_n 3, 1) := by decide +kernel
theorem dX3_put_20 : decode cX3_put 20 = .ok (.iconst 0, 1) := by decide +kernel
theorem dX3_put_21 : decode cX3_put 21 = .ok (.bipush 9, 2) := by decide +kernel
theorem dX3_put_23 : decode cX3_put 23 = .ok (.invokestatic 67, 3) := by decide +kernel
theorem dX3_put_26 : decode cX3_put 26 = .ok (.ifCond .ne 5, 3) := by decide +kernel
theorem dX3_put_29 : decode cX3_put 29 = .ok (.iconst (-1), 1) := by decide +kernel
theorem dX3_put_30 : decode cX3_put 30 = .ok (.ireturn, 1) := by decide +kernel
theorem dX3_put_31 : decode cX3_put 31 = .ok (.aload_n 0, 1) := by decide +kernel
theorem dX3_put_32 : decode cX3_put 32 = .ok (.getfield 10, 3) := by decide +kernel
theorem dX3_put_35 : decode cX3_put 35 = .ok (.iload_n 1, 1) := by decide +kernel
theorem dX3_put_36 : decode cX3_put 36 = .ok (.iload_n 2, 1) := by decide +kernel
theorem dX3_put_37 : decode cX3_put 37 = .ok (.iload_n 3, 1) := by decide +kernel
theorem dX3_put_38 : decode cX3_put 38 = .ok (.invokevirtual 150, 3) := by decide +kernel
theorem dX3_put_41 : decode cX3_put 41 = .ok (.ireturn, 1) := by decide +kernel
theorem dX3_cut_0 : decode cX3_cut 0 = .ok (.iload_n 1, 1) := by decide +kernel
theorem dX3_cut_1 : decode cX3_cut 1 = .ok (.iconst 0, 1) := by decide +kernel
theorem dX3_cut_2 : decode cX3_cut 2 = .ok (.aload_n 0, 1) := by decide +kernel
theorem dX3_cut_3 : decode cX3_cut 3 = .ok (.getfield 10, 3) := by decide +kernel
theorem dX3_cut_6 : decode cX3_cut 6 = .ok (.getfield 89, 3) := by decide +kernel
theorem dX3_cut_9 : decode cX3_cut 9 = .ok (.invokestatic 67, 3) := by decide +kernel
theorem dX3_cut_12 : decode cX3_cut 12 = .ok (.ifCond .ne 5, 3) := by decide +kernel
theorem dX3_cut_15 : decode cX3_cut 15 = .ok (.iconst (-1), 1) := by decide +kernel
theorem dX3_cut_16 : decode cX3_cut 16 = .ok (.ireturn, 1) := by decide +kernel
theorem dX3_cut_17 : decode cX3_cut 17 = .ok (.aload_n 0, 1) := by decide +kernel
theorem dX3_cut_18 : decode cX3_cut 18 = .ok (.getfield 10, 3) := by decide +kernel
theorem dX3_cut_21 : decode cX3_cut 21 = .ok (.getfield 89, 3) := by decide +kernel
theorem dX3_cut_24 : decode cX3_cut 24 = .ok (.istore_n 2, 1) := by decide +kernel
theorem dX3_cut_25 : decode cX3_cut 25 = .ok (.aload_n 0, 1) := by decide +kernel
theorem dX3_cut_26 : decode cX3_cut 26 = .ok (.getfield 10, 3) := by decide +kernel
theorem dX3_cut_29 : decode cX3_cut 29 = .ok (.iload_n 1, 1) := by decide +kernel
theorem dX3_cut_30 : decode cX3_cut 30 = .ok (.putfield 89, 3) := by decide +kernel
theorem dX3_cut_33 : decode cX3_cut 33 = .ok (.iload_n 2, 1) := by decide +kernel
theorem dX3_cut_34 : decode cX3_cut 34 = .ok (.ireturn, 1) := by decide +kernel
theorem dX3_set_0 : decode cX3_set 0 = .ok (.aload_n 0, 1) := by decide +kernel
theorem dX3_set_1 : decode cX3_set 1 = .ok (.getfield 10, 3) := by decide +kernel
theorem dX3_set_4 : decode cX3_set 4 = .ok (.iload_n 1, 1) := by decide +kernel
theorem dX3_set_5 : decode cX3_set 5 = .ok (.invokevirtual 140, 3) := by decide +kernel
theorem dX3_set_8 : decode cX3_set 8 = .ok (.ifCond .eq 14, 3) := by decide +kernel
theorem dX3_set_11 : decode cX3_set 11 = .ok (.iload_n 2, 1) := by decide +kernel
theorem dX3_set_12 : decode cX3_set 12 = .ok (.iconst 0, 1) := by decide +kernel
theorem dX3_set_13 : decode cX3_set 13 = .ok (.sipush 203, 3) := by decide +kernel
theorem dX3_set_16 : decode cX3_set 16 = .ok (.invokestatic 67, 3) := by decide +kernel
theorem dX3_set_19 : decode cX3_set 19 = .ok (.ifCond .ne 5, 3) := by decide +kernel
theorem dX3_set_22 : decode cX3_set 22 = .ok (.iconst (-1), 1) := by decide +kernel
theorem dX3_set_23 : decode cX3_set 23 = .ok (.ireturn, 1) := by decide +kernel
theorem dX3_set_24 : decode cX3_set 24 = .ok (.aload_n 0, 1) := by decide +kernel
theorem dX3_set_25 : decode cX3_set 25 = .ok (.getfield 10, 3) := by decide +kernel
theorem dX3_set_28 : decode cX3_set 28 = .ok (.getfield 143, 3) := by decide +kernel
theorem dX3_set_31 : decode cX3_set 31 = .ok (.iload_n 1, 1) := by decide +kernel
theorem dX3_set_32 : decode cX3_set 32 = .ok (.iload_n 2, 1) := by decide +kernel
theorem dX3_set_33 : decode cX3_set 33 = .ok (.invokestatic 146, 3) := by decide +kernel
theorem dX3_set_36 : decode cX3_set 36 = .ok (.ireturn, 1) := by decide +kernel
theorem dX3_add_0 : decode cX3_add 0 = .ok (.aload_n 0, 1) := by decide +kernel
theorem dX3_add_1 : decode cX3_add 1 = .ok (.iload_n 1, 1) := by decide +kernel
theorem dX3_add_2 : decode cX3_add 2 = .ok (.invokevirtual 154, 3) := by decide +kernel
theorem dX3_add_5 : decode cX3_add 5 = .ok (.ireturn, 1) := by decide +kernel
theorem dX3_drop_0 : decode cX3_drop 0 = .ok (.iload_n 1, 1) := by decide +kernel
theorem dX3_drop_1 : decode cX3_drop 1 = .ok (.iconst 0, 1) := by decide +kernel
theorem dX3_drop_2 : decode cX3_drop 2 = .ok (.aload_n 0, 1) := by decide +kernel
theorem dX3_drop_3 : decode cX3_drop 3 = .ok (.getfield 10, 3) := by decide +kernel
theorem dX3_drop_6 : decode cX3_drop 6 = .ok (.getfield 92, 3) := by decide +kernel
theorem dX3_drop_9 : decode cX3_drop 9 = .ok (.invokestatic 67, 3) := by decide +kernel
theorem dX3_drop_12 : decode cX3_drop 12 = .ok (.ifCond .ne 5, 3) := by decide +kernel
theorem dX3_drop_15 : decode cX3_drop 15 = .ok (.iconst (-1), 1) := by decide +kernel
theorem dX3_drop_16 : decode cX3_drop 16 = .ok (.ireturn, 1) := by decide +kernel
theorem dX3_drop_17 : decode cX3_drop 17 = .ok (.aload_n 0, 1) := by decide +kernel
theorem dX3_drop_18 : decode cX3_drop 18 = .ok (.getfield 10, 3) := by decide +kernel
theorem dX3_drop_21 : decode cX3_drop 21 = .ok (.getfield 92, 3) := by decide +kernel
theorem dX3_drop_24 : decode cX3_drop 24 = .ok (.istore_n 2, 1) := by decide +kernel
theorem dX3_drop_25 : decode cX3_drop 25 = .ok (.aload_n 0, 1) := by decide +kernel
theorem dX3_drop_26 : decode cX3_drop 26 = .ok (.getfield 10, 3) := by decide +kernel
theorem dX3_drop_29 : decode cX3_drop 29 = .ok (.iload_n 1, 1) := by decide +kernel
theorem dX3_drop_30 : decode cX3_drop 30 = .ok (.putfield 92, 3) := by decide +kernel
theorem dX3_drop_33 : decode cX3_drop 33 = .ok (.iload_n 2, 1) := by decide +kernel
theorem dX3_drop_34 : decode cX3_drop 34 = .ok (.ireturn, 1) := by decide +kernel
theorem dX3_turn_0 : decode cX3_turn 0 = .ok (.iload_n 1, 1) := by decide +kernel
theorem dX3_turn_1 : decode cX3_turn 1 = .ok (.iconst 0, 1) := by decide +kernel
theorem dX3_turn_2 : decode cX3_turn 2 = .ok (.sipush 203, 3) := by decide +kernel
theorem dX3_turn_5 : decode cX3_turn 5 = .ok (.invokestatic 67, 3) := by decide +kernel
theorem dX3_turn_8 : decode cX3_turn 8 = .ok (.ifCond .ne 5, 3) := by decide +kernel
theorem dX3_turn_11 : decode cX3_turn 11 = .ok (.iconst (-1), 1) := by decide +kernel
theorem dX3_turn_12 : decode cX3_turn 12 = .ok (.ireturn, 1) := by decide +kernel
theorem dX3_turn_13 : decode cX3_turn 13 = .ok (.iload_n 1, 1) := by decide +kernel
theorem dX3_turn_14 : decode cX3_turn 14 = .ok (.sipush 200, 3) := by decide +kernel
theorem dX3_turn_17 : decode cX3_turn 17 = .ok (.if_icmp .lt 21, 3) := by decide +kernel
theorem dX3_turn_20 : decode cX3_turn 20 = .ok (.aload_n 0, 1) := by decide +kernel
theorem dX3_turn_21 : decode cX3_turn 21 = .ok (.getfield 10, 3) := by decide +kernel
theorem dX3_turn_24 : decode cX3_turn 24 = .ok (.iload_n 1, 1) := by decide +kernel
theorem dX3_turn_25 : decode cX3_turn 25 = .ok (.sipush 200, 3) := by decide +kernel
theorem dX3_turn_28 : decode cX3_turn 28 = .ok (.isub, 1) := by decide +kernel
theorem dX3_turn_29 : decode cX3_turn 29 = .ok (.invokevirtual 117, 3) := by decide +kernel
theorem dX3_turn_32 : decode cX3_turn 32 = .ok (.ifCond .ne 6, 3) := by decide +kernel
theorem dX3_turn_35 : decode cX3_turn 35 = .ok (.bipush (-2), 2) := by decide +kernel
theorem dX3_turn_37 : decode cX3_turn 37 = .ok (.ireturn, 1) := by decide +kernel
theorem dX3_turn_38 : decode cX3_turn 38 = .ok (.aload_n 0, 1) := by decide +kernel
theorem dX3_turn_39 : decode cX3_turn 39 = .ok (.getfield 10, 3) := by decide +kernel
theorem dX3_turn_42 : decode cX3_turn 42 = .ok (.iload_n 1, 1) := by decide +kernel
theorem dX3_turn_43 : decode cX3_turn 43 = .ok (.invokevirtual 157, 3) := by decide +kernel
theorem dX3_turn_46 : decode cX3_turn 46 = .ok (.aload_n 0, 1) := by decide +kernel
theorem dX3_turn_47 : decode cX3_turn 47 = .ok (.getfield 10, 3) := by decide +kernel
theorem dX3_turn_50 : decode cX3_turn 50 = .ok (.getfield 107, 3) := by decide +kernel
theorem dX3_turn_53 : decode cX3_turn 53 = .ok (.ireturn, 1) := by decide +kernel
theorem dX3_ticks_0 : decode cX3_ticks 0 = .ok (.iload_n 1, 1) := by decide +kernel
theorem dX3_ticks_1 : decode cX3_ticks 1 = .ok (.iconst 0, 1) := by decide +kernel
theorem dX3_ticks_2 : decode cX3_ticks 2 = .ok (.bipush 100, 2) := by decide +kernel
theorem dX3_ticks_4 : decode cX3_ticks 4 = .ok (.invokestatic 67, 3) := by decide +kernel
theorem dX3_ticks_7 : decode cX3_ticks 7 = .ok (.ifCond .ne 5, 3) := by decide +kernel
theorem dX3_ticks_10 : decode cX3_ticks 10 = .ok (.iconst (-1), 1) := by decide +kernel
theorem dX3_ticks_11 : decode cX3_ticks 11 = .ok (.ireturn, 1) := by decide +kernel
theorem dX3_ticks_12 : decode cX3_ticks 12 = .ok (.aload_n 0, 1) := by decide +kernel
theorem dX3_ticks_13 : decode cX3_ticks 13 = .ok (.getfield 10, 3) := by decide +kernel
theorem dX3_ticks_16 : decode cX3_ticks 16 = .ok (.getfield 95, 3) := by decide +kernel
theorem dX3_ticks_19 : decode cX3_ticks 19 = .ok (.iload_n 1, 1) := by decide +kernel
theorem dX3_ticks_20 : decode cX3_ticks 20 = .ok (.iadd, 1) := by decide +kernel
theorem dX3_ticks_21 : decode cX3_ticks 21 = .ok (.sipush 10000, 3) := by decide +kernel
theorem dX3_ticks_24 : decode cX3_ticks 24 = .ok (.if_icmp .lt 6, 3) := by decide +kernel
theorem dX3_ticks_27 : decode cX3_ticks 27 = .ok (.bipush (-3), 2) := by decide +kernel
theorem dX3_ticks_29 : decode cX3_ticks 29 = .ok (.ireturn, 1) := by decide +kernel
theorem dX3_ticks_30 : decode cX3_ticks 30 = .ok (.aload_n 0, 1) := by decide +kernel
theorem dX3_ticks_31 : decode cX3_ticks 31 = .ok (.getfield 10, 3) := by decide +kernel
theorem dX3_ticks_34 : decode cX3_ticks 34 = .ok (.getfield 98, 3) := by decide +kernel
theorem dX3_ticks_37 : decode cX3_ticks 37 = .ok (.istore_n 2, 1) := by decide +kernel
theorem dX3_ticks_38 : decode cX3_ticks 38 = .ok (.aload_n 0, 1) := by decide +kernel
theorem dX3_ticks_39 : decode cX3_ticks 39 = .ok (.getfield 10, 3) := by decide +kernel
theorem dX3_ticks_42 : decode cX3_ticks 42 = .ok (.iload_n 1, 1) := by decide +kernel
theorem dX3_ticks_43 : decode cX3_ticks 43 = .ok (.invokevirtual 161, 3) := by decide +kernel
theorem dX3_ticks_46 : decode cX3_ticks 46 = .ok (.aload_n 0, 1) := by decide +kernel
theorem dX3_ticks_47 : decode cX3_ticks 47 = .ok (.getfield 10, 3) := by decide +kernel
theorem dX3_ticks_50 : decode cX3_ticks 50 = .ok (.getfield 98, 3) := by decide +kernel
theorem dX3_ticks_53 : decode cX3_ticks 53 = .ok (.iload_n 2, 1) := by decide +kernel
theorem dX3_ticks_54 : decode cX3_ticks 54 = .ok (.isub, 1) := by decide +kernel
theorem dX3_ticks_55 : decode cX3_ticks 55 = .ok (.ireturn, 1) := by decide +kernel
theorem dX3_runs_0 : decode cX3_runs 0 = .ok (.iload_n 1, 1) := by decide +kernel
theorem dX3_runs_1 : decode cX3_runs 1 = .ok (.iconst 0, 1) := by decide +kernel
theorem dX3_runs_2 : decode cX3_runs 2 = .ok (.sipush 200, 3) := by decide +kernel
theorem dX3_runs_5 : decode cX3_runs 5 = .ok (.invokestatic 67, 3) := by decide +kernel
theorem dX3_runs_8 : decode cX3_runs 8 = .ok (.ifCond .eq 12, 3) := by decide +kernel
theorem dX3_runs_11 : decode cX3_runs 11 = .ok (.iload_n 2, 1) := by decide +kernel
theorem dX3_runs_12 : decode cX3_runs 12 = .ok (.iconst 0, 1) := by decide +kernel
theorem dX3_runs_13 : decode cX3_runs 13 = .ok (.iconst 4, 1) := by decide +kernel
theorem dX3_runs_14 : decode cX3_runs 14 = .ok (.invokestatic 67, 3) := by decide +kernel
theorem dX3_runs_17 : decode cX3_runs 17 = .ok (.ifCond .ne 5, 3) := by decide +kernel
theorem dX3_runs_20 : decode cX3_runs 20 = .ok (.iconst (-1), 1) := by decide +kernel
theorem dX3_runs_21 : decode cX3_runs 21 = .ok (.ireturn, 1) := by decide +kernel
theorem dX3_runs_22 : decode cX3_runs 22 = .ok (.aload_n 0, 1) := by decide +kernel
theorem dX3_runs_23 : decode cX3_runs 23 = .ok (.getfield 16, 3) := by decide +kernel
theorem dX3_runs_26 : decode cX3_runs 26 = .ok (.aload_n 0, 1) := by decide +kernel
theorem dX3_runs_27 : decode cX3_runs 27 = .ok (.getfield 10, 3) := by decide +kernel
theorem dX3_runs_30 : decode cX3_runs 30 = .ok (.invokevirtual 164, 3) := by decide +kernel
theorem dX3_runs_33 : decode cX3_runs 33 = .ok (.aload_n 0, 1) := by decide +kernel
theorem dX3_runs_34 : decode cX3_runs 34 = .ok (.getfield 16, 3) := by decide +kernel
theorem dX3_runs_37 : decode cX3_runs 37 = .ok (.invokevirtual 110, 3) := by decide +kernel
theorem dX3_runs_40 : decode cX3_runs 40 = .ok (.istore_n 3, 1) := by decide +kernel
theorem dX3_runs_41 : decode cX3_runs 41 = .ok (.iconst 0, 1) := by decide +kernel
theorem dX3_runs_42 : decode cX3_runs 42 = .ok (.istore 4, 2) := by decide +kernel
theorem dX3_runs_44 : decode cX3_runs 44 = .ok (.iload 4, 2) := by decide +kernel
theorem dX3_runs_46 : decode cX3_runs 46 = .ok (.iload_n 1, 1) := by decide +kernel
theorem dX3_runs_47 : decode cX3_runs 47 = .ok (.if_icmp .ge 28, 3) := by decide +kernel
theorem dX3_runs_50 : decode cX3_runs 50 = .ok (.aload_n 0, 1) := by decide +kernel
theorem dX3_runs_51 : decode cX3_runs 51 = .ok (.getfield 16, 3) := by decide +kernel
theorem dX3_runs_54 : decode cX3_runs 54 = .ok (.invokevirtual 167, 3) := by decide +kernel
theorem dX3_runs_57 : decode cX3_runs 57 = .ok (.iload_n 3, 1) := by decide +kernel
theorem dX3_runs_58 : decode cX3_runs 58 = .ok (.aload_n 0, 1) := by decide +kernel
theorem dX3_runs_59 : decode cX3_runs 59 = .ok (.getfield 16, 3) := by decide +kernel
theorem dX3_runs_62 : decode cX3_runs 62 = .ok (.invokevirtual 110, 3) := by decide +kernel
theorem dX3_runs_65 : decode cX3_runs 65 = .ok (.invokestatic 170, 3) := by decide +kernel
theorem dX3_runs_68 : decode cX3_runs 68 = .ok (.istore_n 3, 1) := by decide +kernel
theorem dX3_runs_69 : decode cX3_runs 69 = .ok (.iinc 4 1, 3) := by decide +kernel
theorem dX3_runs_72 : decode cX3_runs 72 = .ok (.goto (-28), 3) := by decide +kernel
theorem dX3_runs_75 : decode cX3_runs 75 = .ok (.iload_n 2, 1) := by decide +kernel
theorem dX3_runs_76 : decode cX3_runs 76 = .ok (.tableswitch 64 0 3 #[32, 40, 48, 56], 32) := by decide +kernel
theorem dX3_runs_108 : decode cX3_runs 108 = .ok (.aload_n 0, 1) := by decide +kernel
theorem dX3_runs_109 : decode cX3_runs 109 = .ok (.getfield 16, 3) := by decide +kernel
theorem dX3_runs_112 : decode cX3_runs 112 = .ok (.getfield 98, 3) := by decide +kernel
theorem dX3_runs_115 : decode cX3_runs 115 = .ok (.ireturn, 1) := by decide +kernel
theorem dX3_runs_116 : decode cX3_runs 116 = .ok (.aload_n 0, 1) := by decide +kernel
theorem dX3_runs_117 : decode cX3_runs 117 = .ok (.getfield 16, 3) := by decide +kernel
theorem dX3_runs_120 : decode cX3_runs 120 = .ok (.getfield 101, 3) := by decide +kernel
theorem dX3_runs_123 : decode cX3_runs 123 = .ok (.ireturn, 1) := by decide +kernel
theorem dX3_runs_124 : decode cX3_runs 124 = .ok (.aload_n 0, 1) := by decide +kernel
theorem dX3_runs_125 : decode cX3_runs 125 = .ok (.getfield 16, 3) := by decide +kernel
theorem dX3_runs_128 : decode cX3_runs 128 = .ok (.getfield 175, 3) := by decide +kernel
theorem dX3_runs_131 : decode cX3_runs 131 = .ok (.ireturn, 1) := by decide +kernel
theorem dX3_runs_132 : decode cX3_runs 132 = .ok (.aload_n 0, 1) := by decide +kernel
theorem dX3_runs_133 : decode cX3_runs 133 = .ok (.getfield 16, 3) := by decide +kernel
theorem dX3_runs_136 : decode cX3_runs 136 = .ok (.invokevirtual 178, 3) := by decide +kernel
theorem dX3_runs_139 : decode cX3_runs 139 = .ok (.ireturn, 1) := by decide +kernel
theorem dX3_runs_140 : decode cX3_runs 140 = .ok (.iload_n 3, 1) := by decide +kernel
theorem dX3_runs_141 : decode cX3_runs 141 = .ok (.ireturn, 1) := by decide +kernel
theorem dX3_ahead_0 : decode cX3_ahead 0 = .ok (.aload_n 0, 1) := by decide +kernel
theorem dX3_ahead_1 : decode cX3_ahead 1 = .ok (.getfield 10, 3) := by decide +kernel
theorem dX3_ahead_4 : decode cX3_ahead 4 = .ok (.iload_n 1, 1) := by decide +kernel
theorem dX3_ahead_5 : decode cX3_ahead 5 = .ok (.invokevirtual 117, 3) := by decide +kernel
theorem dX3_ahead_8 : decode cX3_ahead 8 = .ok (.ifCond .eq 14, 3) := by decide +kernel
theorem dX3_ahead_11 : decode cX3_ahead 11 = .ok (.iload_n 2, 1) := by decide +kernel
theorem dX3_ahead_12 : decode cX3_ahead 12 = .ok (.iconst 0, 1) := by decide +kernel
theorem dX3_ahead_13 : decode cX3_ahead 13 = .ok (.sipush 200, 3) := by decide +kernel
theorem dX3_ahead_16 : decode cX3_ahead 16 = .ok (.invokestatic 67, 3) := by decide +kernel
theorem dX3_ahead_19 : decode cX3_ahead 19 = .ok (.ifCond .ne 5, 3) := by decide +kernel
theorem dX3_ahead_22 : decode cX3_ahead 22 = .ok (.iconst (-1), 1) := by decide +kernel
theorem dX3_ahead_23 : decode cX3_ahead 23 = .ok (.ireturn, 1) := by decide +kernel
theorem dX3_ahead_24 : decode cX3_ahead 24 = .ok (.aload_n 0, 1) := by decide +kernel
theorem dX3_ahead_25 : decode cX3_ahead 25 = .ok (.getfield 16, 3) := by decide +kernel
theorem dX3_ahead_28 : decode cX3_ahead 28 = .ok (.aload_n 0, 1) := by decide +kernel
theorem dX3_ahead_29 : decode cX3_ahead 29 = .ok (.getfield 10, 3) := by decide +kernel
theorem dX3_ahead_32 : decode cX3_ahead 32 = .ok (.invokevirtual 164, 3) := by decide +kernel
theorem dX3_ahead_35 : decode cX3_ahead 35 = .ok (.aload_n 0, 1) := by decide +kernel
theorem dX3_ahead_36 : decode cX3_ahead 36 = .ok (.getfield 16, 3) := by decide +kernel
theorem dX3_ahead_39 : decode cX3_ahead 39 = .ok (.iload_n 2, 1) := by decide +kernel
theorem dX3_ahead_40 : decode cX3_ahead 40 = .ok (.invokevirtual 161, 3) := by decide +kernel
theorem dX3_ahead_43 : decode cX3_ahead 43 = .ok (.aload_n 0, 1) := by decide +kernel
theorem dX3_ahead_44 : decode cX3_ahead 44 = .ok (.getfield 16, 3) := by decide +kernel
theorem dX3_ahead_47 : decode cX3_ahead 47 = .ok (.getfield 130, 3) := by decide +kernel
theorem dX3_ahead_50 : decode cX3_ahead 50 = .ok (.iload_n 1, 1) := by decide +kernel
theorem dX3_ahead_51 : decode cX3_ahead 51 = .ok (.iaload, 1) := by decide +kernel
theorem dX3_ahead_52 : decode cX3_ahead 52 = .ok (.ireturn, 1) := by decide +kernel
theorem dX3_when_0 : decode cX3_when 0 = .ok (.aload_n 0, 1) := by decide +kernel
theorem dX3_when_1 : decode cX3_when 1 = .ok (.getfield 10, 3) := by decide +kernel
theorem dX3_when_4 : decode cX3_when 4 = .ok (.iload_n 1, 1) := by decide +kernel
theorem dX3_when_5 : decode cX3_when 5 = .ok (.invokevirtual 117, 3) := by decide +kernel
theorem dX3_when_8 : decode cX3_when 8 = .ok (.ifCond .ne 5, 3) := by decide +kernel
theorem dX3_when_11 : decode cX3_when 11 = .ok (.iconst (-1), 1) := by decide +kernel
theorem dX3_when_12 : decode cX3_when 12 = .ok (.ireturn, 1) := by decide +kernel
theorem dX3_when_13 : decode cX3_when 13 = .ok (.aload_n 0, 1) := by decide +kernel
theorem dX3_when_14 : decode cX3_when 14 = .ok (.getfield 16, 3) := by decide +kernel
theorem dX3_when_17 : decode cX3_when 17 = .ok (.aload_n 0, 1) := by decide +kernel
theorem dX3_when_18 : decode cX3_when 18 = .ok (.getfield 10, 3) := by decide +kernel
theorem dX3_when_21 : decode cX3_when 21 = .ok (.invokevirtual 164, 3) := by decide +kernel
theorem dX3_when_24 : decode cX3_when 24 = .ok (.iconst 0, 1) := by decide +kernel
theorem dX3_when_25 : decode cX3_when 25 = .ok (.istore_n 2, 1) := by decide +kernel
theorem dX3_when_26 : decode cX3_when 26 = .ok (.iload_n 2, 1) := by decide +kernel
theorem dX3_when_27 : decode cX3_when 27 = .ok (.sipush 200, 3) := by decide +kernel
theorem dX3_when_30 : decode cX3_when 30 = .ok (.if_icmp .gt 30, 3) := by decide +kernel
theorem dX3_when_33 : decode cX3_when 33 = .ok (.aload_n 0, 1) := by decide +kernel
theorem dX3_when_34 : decode cX3_when 34 = .ok (.getfield 16, 3) := by decide +kernel
theorem dX3_when_37 : decode cX3_when 37 = .ok (.getfield 130, 3) := by decide +kernel
theorem dX3_when_40 : decode cX3_when 40 = .ok (.iload_n 1, 1) := by decide +kernel
theorem dX3_when_41 : decode cX3_when 41 = .ok (.iaload, 1) := by decide +kernel
theorem dX3_when_42 : decode cX3_when 42 = .ok (.ifCond .ne 5, 3) := by decide +kernel
theorem dX3_when_45 : decode cX3_when 45 = .ok (.iload_n 2, 1) := by decide +kernel
theorem dX3_when_46 : decode cX3_when 46 = .ok (.ireturn, 1) := by decide +kernel
theorem dX3_when_47 : decode cX3_when 47 = .ok (.aload_n 0, 1) := by decide +kernel
theorem dX3_when_48 : decode cX3_when 48 = .ok (.getfield 16, 3) := by decide +kernel
theorem dX3_when_51 : decode cX3_when 51 = .ok (.invokevirtual 167, 3) := by decide +kernel
theorem dX3_when_54 : decode cX3_when 54 = .ok (.iinc 2 1, 3) := by decide +kernel
theorem dX3_when_57 : decode cX3_when 57 = .ok (.goto (-31), 3) := by decide +kernel
theorem dX3_when_60 : decode cX3_when 60 = .ok (.bipush (-4), 2) := by decide +kernel
theorem dX3_when_62 : decode cX3_when 62 = .ok (.ireturn, 1) := by decide +kernel
theorem dX3_again_0 : decode cX3_again 0 = .ok (.aload_n 0, 1) := by decide +kernel
theorem dX3_again_1 : decode cX3_again 1 = .ok (.getfield 16, 3) := by decide +kernel
theorem dX3_again_4 : decode cX3_again 4 = .ok (.aload_n 0, 1) := by decide +kernel
theorem dX3_again_5 : decode cX3_again 5 = .ok (.getfield 10, 3) := by decide +kernel
theorem dX3_again_8 : decode cX3_again 8 = .ok (.invokevirtual 164, 3) := by decide +kernel
theorem dX3_again_11 : decode cX3_again 11 = .ok (.iconst 1, 1) := by decide +kernel
theorem dX3_again_12 : decode cX3_again 12 = .ok (.istore_n 1, 1) := by decide +kernel
theorem dX3_again_13 : decode cX3_again 13 = .ok (.iload_n 1, 1) := by decide +kernel
theorem dX3_again_14 : decode cX3_again 14 = .ok (.sipush 200, 3) := by decide +kernel
theorem dX3_again_17 : decode cX3_again 17 = .ok (.if_icmp .gt 49, 3) := by decide +kernel
theorem dX3_again_20 : decode cX3_again 20 = .ok (.aload_n 0, 1) := by decide +kernel
theorem dX3_again_21 : decode cX3_again 21 = .ok (.getfield 16, 3) := by decide +kernel
theorem dX3_again_24 : decode cX3_again 24 = .ok (.invokevirtual 167, 3) := by decide +kernel
theorem dX3_again_27 : decode cX3_again 27 = .ok (.aload_n 0, 1) := by decide +kernel
theorem dX3_again_28 : decode cX3_again 28 = .ok (.getfield 16, 3) := by decide +kernel
theorem dX3_again_31 : decode cX3_again 31 = .ok (.invokevirtual 181, 3) := by decide +kernel
theorem dX3_again_34 : decode cX3_again 34 = .ok (.aload_n 0, 1) := by decide +kernel
theorem dX3_again_35 : decode cX3_again 35 = .ok (.getfield 10, 3) := by decide +kernel
theorem dX3_again_38 : decode cX3_again 38 = .ok (.invokevirtual 181, 3) := by decide +kernel
theorem dX3_again_41 : decode cX3_again 41 = .ok (.if_icmp .ne 19, 3) := by decide +kernel
theorem dX3_again_44 : decode cX3_again 44 = .ok (.aload_n 0, 1) := by decide +kernel
theorem dX3_again_45 : decode cX3_again 45 = .ok (.getfield 16, 3) := by decide +kernel
theorem dX3_again_48 : decode cX3_again 48 = .ok (.aload_n 0, 1) := by decide +kernel
theorem dX3_again_49 : decode cX3_again 49 = .ok (.getfield 10, 3) := by decide +kernel
theorem dX3_again_52 : decode cX3_again 52 = .ok (.invokevirtual 184, 3) := by decide +kernel
theorem dX3_again_55 : decode cX3_again 55 = .ok (.ifCond .eq 5, 3) := by decide +kernel
theorem dX3_again_58 : decode cX3_again 58 = .ok (.iload_n 1, 1) := by decide +kernel
theorem dX3_again_59 : decode cX3_again 59 = .ok (.ireturn, 1) := by decide +kernel
theorem dX3_again_60 : decode cX3_again 60 = .ok (.iinc 1 1, 3) := by decide +kernel
theorem dX3_again_63 : decode cX3_again 63 = .ok (.goto (-50), 3) := by decide +kernel
theorem dX3_again_66 : decode cX3_again 66 = .ok (.bipush (-4), 2) := by decide +kernel
theorem dX3_again_68 : decode cX3_again 68 = .ok (.ireturn, 1) := by decide +kernel
theorem dX3_mass_0 : decode cX3_mass 0 = .ok (.aload_n 0, 1) := by decide +kernel
theorem dX3_mass_1 : decode cX3_mass 1 = .ok (.getfield 10, 3) := by decide +kernel
theorem dX3_mass_4 : decode cX3_mass 4 = .ok (.iload_n 1, 1) := by decide +kernel
theorem dX3_mass_5 : decode cX3_mass 5 = .ok (.invokevirtual 117, 3) := by decide +kernel
theorem dX3_mass_8 : decode cX3_mass 8 = .ok (.ifCond .eq 11, 3) := by decide +kernel
theorem dX3_mass_11 : decode cX3_mass 11 = .ok (.iload_n 2, 1) := by decide +kernel
theorem dX3_mass_12 : decode cX3_mass 12 = .ok (.iload_n 3, 1) := by decide +kernel
theorem dX3_mass_13 : decode cX3_mass 13 = .ok (.invokestatic 188, 3) := by decide +kernel
theorem dX3_mass_16 : decode cX3_mass 16 = .ok (.ifCond .ne 5, 3) := by decide +kernel
theorem dX3_mass_19 : decode cX3_mass 19 = .ok (.iconst (-1), 1) := by decide +kernel
theorem dX3_mass_20 : decode cX3_mass 20 = .ok (.ireturn, 1) := by decide +kernel
theorem dX3_mass_21 : decode cX3_mass 21 = .ok (.iconst 0, 1) := by decide +kernel
theorem dX3_mass_22 : decode cX3_mass 22 = .ok (.istore 4, 2) := by decide +kernel
theorem dX3_mass_24 : decode cX3_mass 24 = .ok (.iconst (-1), 1) := by decide +kernel
theorem dX3_mass_25 : decode cX3_mass 25 = .ok (.istore 5, 2) := by decide +kernel
theorem dX3_mass_27 : decode cX3_mass 27 = .ok (.iconst 1, 1) := by decide +kernel
theorem dX3_mass_28 : decode cX3_mass 28 = .ok (.istore 6, 2) := by decide +kernel
theorem dX3_mass_30 : decode cX3_mass 30 = .ok (.iload 6, 2) := by decide +kernel
theorem dX3_mass_32 : decode cX3_mass 32 = .ok (.bipush 20, 2) := by decide +kernel
theorem dX3_mass_34 : decode cX3_mass 34 = .ok (.if_icmp .gt 64, 3) := by decide +kernel
theorem dX3_mass_37 : decode cX3_mass 37 = .ok (.aload_n 0, 1) := by decide +kernel
theorem dX3_mass_38 : decode cX3_mass 38 = .ok (.getfield 16, 3) := by decide +kernel
theorem dX3_mass_41 : decode cX3_mass 41 = .ok (.aload_n 0, 1) := by decide +kernel
theorem dX3_mass_42 : decode cX3_mass 42 = .ok (.getfield 10, 3) := by decide +kernel
theorem dX3_mass_45 : decode cX3_mass 45 = .ok (.invokevirtual 164, 3) := by decide +kernel
theorem dX3_mass_48 : decode cX3_mass 48 = .ok (.aload_n 0, 1) := by decide +kernel
theorem dX3_mass_49 : decode cX3_mass 49 = .ok (.getfield 16, 3) := by decide +kernel
theorem dX3_mass_52 : decode cX3_mass 52 = .ok (.getfield 124, 3) := by decide +kernel
theorem dX3_mass_55 : decode cX3_mass 55 = .ok (.iload_n 1, 1) := by decide +kernel
theorem dX3_mass_56 : decode cX3_mass 56 = .ok (.iload 6, 2) := by decide +kernel
theorem dX3_mass_58 : decode cX3_mass 58 = .ok (.iastore, 1) := by decide +kernel
theorem dX3_mass_59 : decode cX3_mass 59 = .ok (.aload_n 0, 1) := by decide +kernel
theorem dX3_mass_60 : decode cX3_mass 60 = .ok (.getfield 16, 3) := by decide +kernel
theorem dX3_mass_63 : decode cX3_mass 63 = .ok (.iload_n 2, 1) := by decide +kernel
theorem dX3_mass_64 : decode cX3_mass 64 = .ok (.invokevirtual 161, 3) := by decide +kernel
theorem dX3_mass_67 : decode cX3_mass 67 = .ok (.aload_n 0, 1) := by decide +kernel
theorem dX3_mass_68 : decode cX3_mass 68 = .ok (.getfield 16, 3) := by decide +kernel
theorem dX3_mass_71 : decode cX3_mass 71 = .ok (.getfield 98, 3) := by decide +kernel
theorem dX3_mass_74 : decode cX3_mass 74 = .ok (.iload 5, 2) := by decide +kernel
theorem dX3_mass_76 : decode cX3_mass 76 = .ok (.if_icmp .le 16, 3) := by decide +kernel
theorem dX3_mass_79 : decode cX3_mass 79 = .ok (.aload_n 0, 1) := by decide +kernel
theorem dX3_mass_80 : decode cX3_mass 80 = .ok (.getfield 16, 3) := by decide +kernel
theorem dX3_mass_83 : decode cX3_mass 83 = .ok (.getfield 98, 3) := by decide +kernel
theorem dX3_mass_86 : decode cX3_mass 86 = .ok (.istore 5, 2) := by decide +kernel
theorem dX3_mass_88 : decode cX3_mass 88 = .ok (.iload 6, 2) := by decide +kernel
theorem dX3_mass_90 : decode cX3_mass 90 = .ok (.istore 4, 2) := by decide +kernel
theorem dX3_mass_92 : decode cX3_mass 92 = .ok (.iinc 6 1, 3) := by decide +kernel
theorem dX3_mass_95 : decode cX3_mass 95 = .ok (.goto (-65), 3) := by decide +kernel
theorem dX3_mass_98 : decode cX3_mass 98 = .ok (.iload_n 3, 1) := by decide +kernel
theorem dX3_mass_99 : decode cX3_mass 99 = .ok (.ifCond .ne 8, 3) := by decide +kernel
theorem dX3_mass_102 : decode cX3_mass 102 = .ok (.iload 4, 2) := by decide +kernel
theorem dX3_mass_104 : decode cX3_mass 104 = .ok (.goto 5, 3) := by decide +kernel
theorem dX3_mass_107 : decode cX3_mass 107 = .ok (.iload 5, 2) := by decide +kernel
theorem dX3_mass_109 : decode cX3_mass 109 = .ok (.ireturn, 1) := by decide +kernel
theorem dX3_kind_0 : decode cX3_kind 0 = .ok (.aload_n 0, 1) := by decide +kernel
theorem dX3_kind_1 : decode cX3_kind 1 = .ok (.getfield 10, 3) := by decide +kernel
theorem dX3_kind_4 : decode cX3_kind 4 = .ok (.iload_n 1, 1) := by decide +kernel
theorem dX3_kind_5 : decode cX3_kind 5 = .ok (.invokevirtual 117, 3) := by decide +kernel
theorem dX3_kind_8 : decode cX3_kind 8 = .ok (.ifCond .eq 11, 3) := by decide +kernel
theorem dX3_kind_11 : decode cX3_kind 11 = .ok (.iload_n 2, 1) := by decide +kernel
theorem dX3_kind_12 : decode cX3_kind 12 = .ok (.iload_n 3, 1) := by decide +kernel
theorem dX3_kind_13 : decode cX3_kind 13 = .ok (.invokestatic 188, 3) := by decide +kernel
theorem dX3_kind_16 : decode cX3_kind 16 = .ok (.ifCond .ne 5, 3) := by decide +kernel
theorem dX3_kind_19 : decode cX3_kind 19 = .ok (.iconst (-1), 1) := by decide +kernel
theorem dX3_kind_20 : decode cX3_kind 20 = .ok (.ireturn, 1) := by decide +kernel
theorem dX3_kind_21 : decode cX3_kind 21 = .ok (.iconst 0, 1) := by decide +kernel
theorem dX3_kind_22 : decode cX3_kind 22 = .ok (.istore 4, 2) := by decide +kernel
theorem dX3_kind_24 : decode cX3_kind 24 = .ok (.iconst (-1), 1) := by decide +kernel
theorem dX3_kind_25 : decode cX3_kind 25 = .ok (.istore 5, 2) := by decide +kernel
theorem dX3_kind_27 : decode cX3_kind 27 = .ok (.iconst 0, 1) := by decide +kernel
theorem dX3_kind_28 : decode cX3_kind 28 = .ok (.istore 6, 2) := by decide +kernel
theorem dX3_kind_30 : decode cX3_kind 30 = .ok (.iload 6, 2) := by decide +kernel
theorem dX3_kind_32 : decode cX3_kind 32 = .ok (.iconst 3, 1) := by decide +kernel
theorem dX3_kind_33 : decode cX3_kind 33 = .ok (.if_icmp .gt 64, 3) := by decide +kernel
theorem dX3_kind_36 : decode cX3_kind 36 = .ok (.aload_n 0, 1) := by decide +kernel
theorem dX3_kind_37 : decode cX3_kind 37 = .ok (.getfield 16, 3) := by decide +kernel
theorem dX3_kind_40 : decode cX3_kind 40 = .ok (.aload_n 0, 1) := by decide +kernel
theorem dX3_kind_41 : decode cX3_kind 41 = .ok (.getfield 10, 3) := by decide +kernel
theorem dX3_kind_44 : decode cX3_kind 44 = .ok (.invokevirtual 164, 3) := by decide +kernel
theorem dX3_kind_47 : decode cX3_kind 47 = .ok (.aload_n 0, 1) := by decide +kernel
theorem dX3_kind_48 : decode cX3_kind 48 = .ok (.getfield 16, 3) := by decide +kernel
theorem dX3_kind_51 : decode cX3_kind 51 = .ok (.getfield 121, 3) := by decide +kernel
theorem dX3_kind_54 : decode cX3_kind 54 = .ok (.iload_n 1, 1) := by decide +kernel
theorem dX3_kind_55 : decode cX3_kind 55 = .ok (.iload 6, 2) := by decide +kernel
theorem dX3_kind_57 : decode cX3_kind 57 = .ok (.iastore, 1) := by decide +kernel
theorem dX3_kind_58 : decode cX3_kind 58 = .ok (.aload_n 0, 1) := by decide +kernel
theorem dX3_kind_59 : decode cX3_kind 59 = .ok (.getfield 16, 3) := by decide +kernel
theorem dX3_kind_62 : decode cX3_kind 62 = .ok (.iload_n 2, 1) := by decide +kernel
theorem dX3_kind_63 : decode cX3_kind 63 = .ok (.invokevirtual 161, 3) := by decide +kernel
theorem dX3_kind_66 : decode cX3_kind 66 = .ok (.aload_n 0, 1) := by decide +kernel
theorem dX3_kind_67 : decode cX3_kind 67 = .ok (.getfield 16, 3) := by decide +kernel
theorem dX3_kind_70 : decode cX3_kind 70 = .ok (.getfield 98, 3) := by decide +kernel
theorem dX3_kind_73 : decode cX3_kind 73 = .ok (.iload 5, 2) := by decide +kernel
theorem dX3_kind_75 : decode cX3_kind 75 = .ok (.if_icmp .le 16, 3) := by decide +kernel
theorem dX3_kind_78 : decode cX3_kind 78 = .ok (.aload_n 0, 1) := by decide +kernel
theorem dX3_kind_79 : decode cX3_kind 79 = .ok (.getfield 16, 3) := by decide +kernel
theorem dX3_kind_82 : decode cX3_kind 82 = .ok (.getfield 98, 3) := by decide +kernel
theorem dX3_kind_85 : decode cX3_kind 85 = .ok (.istore 5, 2) := by decide +kernel
theorem dX3_kind_87 : decode cX3_kind 87 = .ok (.iload 6, 2) := by decide +kernel
theorem dX3_kind_89 : decode cX3_kind 89 = .ok (.istore 4, 2) := by decide +kernel
theorem dX3_kind_91 : decode cX3_kind 91 = .ok (.iinc 6 1, 3) := by decide +kernel
theorem dX3_kind_94 : decode cX3_kind 94 = .ok (.goto (-64), 3) := by decide +kernel
theorem dX3_kind_97 : decode cX3_kind 97 = .ok (.iload_n 3, 1) := by decide +kernel
theorem dX3_kind_98 : decode cX3_kind 98 = .ok (.ifCond .ne 8, 3) := by decide +kernel
theorem dX3_kind_101 : decode cX3_kind 101 = .ok (.iload 4, 2) := by decide +kernel
theorem dX3_kind_103 : decode cX3_kind 103 = .ok (.goto 5, 3) := by decide +kernel
theorem dX3_kind_106 : decode cX3_kind 106 = .ok (.iload 5, 2) := by decide +kernel
theorem dX3_kind_108 : decode cX3_kind 108 = .ok (.ireturn, 1) := by decide +kernel
theorem dX3_bears_0 : decode cX3_bears 0 = .ok (.aload_n 0, 1) := by decide +kernel
theorem dX3_bears_1 : decode cX3_bears 1 = .ok (.getfield 10, 3) := by decide +kernel
theorem dX3_bears_4 : decode cX3_bears 4 = .ok (.iload_n 1, 1) := by decide +kernel
theorem dX3_bears_5 : decode cX3_bears 5 = .ok (.invokevirtual 117, 3) := by decide +kernel
theorem dX3_bears_8 : decode cX3_bears 8 = .ok (.ifCond .eq 14, 3) := by decide +kernel
theorem dX3_bears_11 : decode cX3_bears 11 = .ok (.iload_n 2, 1) := by decide +kernel
theorem dX3_bears_12 : decode cX3_bears 12 = .ok (.iconst 0, 1) := by decide +kernel
theorem dX3_bears_13 : decode cX3_bears 13 = .ok (.sipush 200, 3) := by decide +kernel
theorem dX3_bears_16 : decode cX3_bears 16 = .ok (.invokestatic 67, 3) := by decide +kernel
theorem dX3_bears_19 : decode cX3_bears 19 = .ok (.ifCond .ne 5, 3) := by decide +kernel
theorem dX3_bears_22 : decode cX3_bears 22 = .ok (.iconst (-1), 1) := by decide +kernel
theorem dX3_bears_23 : decode cX3_bears 23 = .ok (.ireturn, 1) := by decide +kernel
theorem dX3_bears_24 : decode cX3_bears 24 = .ok (.bipush 9, 2) := by decide +kernel
theorem dX3_bears_26 : decode cX3_bears 26 = .ok (.istore_n 3, 1) := by decide +kernel
theorem dX3_bears_27 : decode cX3_bears 27 = .ok (.iload_n 3, 1) := by decide +kernel
theorem dX3_bears_28 : decode cX3_bears 28 = .ok (.ifCond .lt 50, 3) := by decide +kernel
theorem dX3_bears_31 : decode cX3_bears 31 = .ok (.aload_n 0, 1) := by decide +kernel
theorem dX3_bears_32 : decode cX3_bears 32 = .ok (.getfield 16, 3) := by decide +kernel
theorem dX3_bears_35 : decode cX3_bears 35 = .ok (.aload_n 0, 1) := by decide +kernel
theorem dX3_bears_36 : decode cX3_bears 36 = .ok (.getfield 10, 3) := by decide +kernel
theorem dX3_bears_39 : decode cX3_bears 39 = .ok (.invokevirtual 164, 3) := by decide +kernel
theorem dX3_bears_42 : decode cX3_bears 42 = .ok (.aload_n 0, 1) := by decide +kernel
theorem dX3_bears_43 : decode cX3_bears 43 = .ok (.getfield 16, 3) := by decide +kernel
theorem dX3_bears_46 : decode cX3_bears 46 = .ok (.getfield 127, 3) := by decide +kernel
theorem dX3_bears_49 : decode cX3_bears 49 = .ok (.iload_n 1, 1) := by decide +kernel
theorem dX3_bears_50 : decode cX3_bears 50 = .ok (.iload_n 3, 1) := by decide +kernel
theorem dX3_bears_51 : decode cX3_bears 51 = .ok (.iastore, 1) := by decide +kernel
theorem dX3_bears_52 : decode cX3_bears 52 = .ok (.aload_n 0, 1) := by decide +kernel
theorem dX3_bears_53 : decode cX3_bears 53 = .ok (.getfield 16, 3) := by decide +kernel
theorem dX3_bears_56 : decode cX3_bears 56 = .ok (.iload_n 2, 1) := by decide +kernel
theorem dX3_bears_57 : decode cX3_bears 57 = .ok (.invokevirtual 161, 3) := by decide +kernel
theorem dX3_bears_60 : decode cX3_bears 60 = .ok (.aload_n 0, 1) := by decide +kernel
theorem dX3_bears_61 : decode cX3_bears 61 = .ok (.getfield 16, 3) := by decide +kernel
theorem dX3_bears_64 : decode cX3_bears 64 = .ok (.getfield 101, 3) := by decide +kernel
theorem dX3_bears_67 : decode cX3_bears 67 = .ok (.ifCond .ne 5, 3) := by decide +kernel
theorem dX3_bears_70 : decode cX3_bears 70 = .ok (.iload_n 3, 1) := by decide +kernel
theorem dX3_bears_71 : decode cX3_bears 71 = .ok (.ireturn, 1) := by decide +kernel
theorem dX3_bears_72 : decode cX3_bears 72 = .ok (.iinc 3 (-1), 3) := by decide +kernel
theorem dX3_bears_75 : decode cX3_bears 75 = .ok (.goto (-48), 3) := by decide +kernel
theorem dX3_bears_78 : decode cX3_bears 78 = .ok (.bipush (-4), 2) := by decide +kernel
theorem dX3_bears_80 : decode cX3_bears 80 = .ok (.ireturn, 1) := by decide +kernel
theorem dX3_swap_0 : decode cX3_swap 0 = .ok (.iload_n 1, 1) := by decide +kernel
theorem dX3_swap_1 : decode cX3_swap 1 = .ok (.iload_n 2, 1) := by decide +kernel
theorem dX3_swap_2 : decode cX3_swap 2 = .ok (.invokestatic 188, 3) := by decide +kernel
theorem dX3_swap_5 : decode cX3_swap 5 = .ok (.ifCond .ne 5, 3) := by decide +kernel
theorem dX3_swap_8 : decode cX3_swap 8 = .ok (.iconst (-1), 1) := by decide +kernel
theorem dX3_swap_9 : decode cX3_swap 9 = .ok (.ireturn, 1) := by decide +kernel
theorem dX3_swap_10 : decode cX3_swap 10 = .ok (.bipush (-4), 2) := by decide +kernel
theorem dX3_swap_12 : decode cX3_swap 12 = .ok (.istore_n 3, 1) := by decide +kernel
theorem dX3_swap_13 : decode cX3_swap 13 = .ok (.aload_n 0, 1) := by decide +kernel
theorem dX3_swap_14 : decode cX3_swap 14 = .ok (.iload_n 1, 1) := by decide +kernel
theorem dX3_swap_15 : decode cX3_swap 15 = .ok (.invokevirtual 192, 3) := by decide +kernel
theorem dX3_swap_18 : decode cX3_swap 18 = .ok (.istore 4, 2) := by decide +kernel
theorem dX3_swap_20 : decode cX3_swap 20 = .ok (.iconst 0, 1) := by decide +kernel
theorem dX3_swap_21 : decode cX3_swap 21 = .ok (.istore 5, 2) := by decide +kernel
theorem dX3_swap_23 : decode cX3_swap 23 = .ok (.iload 5, 2) := by decide +kernel
theorem dX3_swap_25 : decode cX3_swap 25 = .ok (.aload_n 0, 1) := by decide +kernel
theorem dX3_swap_26 : decode cX3_swap 26 = .ok (.getfield 10, 3) := by decide +kernel
theorem dX3_swap_29 : decode cX3_swap 29 = .ok (.getfield 92, 3) := by decide +kernel
theorem dX3_swap_32 : decode cX3_swap 32 = .ok (.if_icmp .ge 87, 3) := by decide +kernel
theorem dX3_swap_35 : decode cX3_swap 35 = .ok (.iload 5, 2) := by decide +kernel
theorem dX3_swap_37 : decode cX3_swap 37 = .ok (.iconst 1, 1) := by decide +kernel
theorem dX3_swap_38 : decode cX3_swap 38 = .ok (.iadd, 1) := by decide +kernel
theorem dX3_swap_39 : decode cX3_swap 39 = .ok (.istore 6, 2) := by decide +kernel
theorem dX3_swap_41 : decode cX3_swap 41 = .ok (.iload 6, 2) := by decide +kernel
theorem dX3_swap_43 : decode cX3_swap 43 = .ok (.aload_n 0, 1) := by decide +kernel
theorem dX3_swap_44 : decode cX3_swap 44 = .ok (.getfield 10, 3) := by decide +kernel
theorem dX3_swap_47 : decode cX3_swap 47 = .ok (.getfield 92, 3) := by decide +kernel
theorem dX3_swap_50 : decode cX3_swap 50 = .ok (.if_icmp .ge 63, 3) := by decide +kernel
theorem dX3_swap_53 : decode cX3_swap 53 = .ok (.aload_n 0, 1) := by decide +kernel
theorem dX3_swap_54 : decode cX3_swap 54 = .ok (.getfield 10, 3) := by decide +kernel
theorem dX3_swap_57 : decode cX3_swap 57 = .ok (.getfield 143, 3) := by decide +kernel
theorem dX3_swap_60 : decode cX3_swap 60 = .ok (.iload 5, 2) := by decide +kernel
theorem dX3_swap_62 : decode cX3_swap 62 = .ok (.iaload, 1) := by decide +kernel
theorem dX3_swap_63 : decode cX3_swap 63 = .ok (.aload_n 0, 1) := by decide +kernel
theorem dX3_swap_64 : decode cX3_swap 64 = .ok (.getfield 10, 3) := by decide +kernel
theorem dX3_swap_67 : decode cX3_swap 67 = .ok (.getfield 143, 3) := by decide +kernel
theorem dX3_swap_70 : decode cX3_swap 70 = .ok (.iload 6, 2) := by decide +kernel
theorem dX3_swap_72 : decode cX3_swap 72 = .ok (.iaload, 1) := by decide +kernel
theorem dX3_swap_73 : decode cX3_swap 73 = .ok (.if_icmp .eq 34, 3) := by decide +kernel
theorem dX3_swap_76 : decode cX3_swap 76 = .ok (.aload_n 0, 1) := by decide +kernel
theorem dX3_swap_77 : decode cX3_swap 77 = .ok (.iload 5, 2) := by decide +kernel
theorem dX3_swap_79 : decode cX3_swap 79 = .ok (.iload 6, 2) := by decide +kernel
theorem dX3_swap_81 : decode cX3_swap 81 = .ok (.iload_n 1, 1) := by decide +kernel
theorem dX3_swap_82 : decode cX3_swap 82 = .ok (.invokevirtual 195, 3) := by decide +kernel
theorem dX3_swap_85 : decode cX3_swap 85 = .ok (.istore 7, 2) := by decide +kernel
theorem dX3_swap_87 : decode cX3_swap 87 = .ok (.iload 7, 2) := by decide +kernel
theorem dX3_swap_89 : decode cX3_swap 89 = .ok (.iload 4, 2) := by decide +kernel
theorem dX3_swap_91 : decode cX3_swap 91 = .ok (.if_icmp .le 16, 3) := by decide +kernel
theorem dX3_swap_94 : decode cX3_swap 94 = .ok (.iload 7, 2) := by decide +kernel
theorem dX3_swap_96 : decode cX3_swap 96 = .ok (.istore 4, 2) := by decide +kernel
theorem dX3_swap_98 : decode cX3_swap 98 = .ok (.bipush 100, 2) := by decide +kernel
theorem dX3_swap_100 : decode cX3_swap 100 = .ok (.iload 5, 2) := by decide +kernel
theorem dX3_swap_102 : decode cX3_swap 102 = .ok (.imul, 1) := by decide +kernel
theorem dX3_swap_103 : decode cX3_swap 103 = .ok (.iload 6, 2) := by decide +kernel
theorem dX3_swap_105 : decode cX3_swap 105 = .ok (.iadd, 1) := by decide +kernel
theorem dX3_swap_106 : decode cX3_swap 106 = .ok (.istore_n 3, 1) := by decide +kernel
theorem dX3_swap_107 : decode cX3_swap 107 = .ok (.iinc 6 1, 3) := by decide +kernel
theorem dX3_swap_110 : decode cX3_swap 110 = .ok (.goto (-69), 3) := by decide +kernel
theorem dX3_swap_113 : decode cX3_swap 113 = .ok (.iinc 5 1, 3) := by decide +kernel
theorem dX3_swap_116 : decode cX3_swap 116 = .ok (.goto (-93), 3) := by decide +kernel
theorem dX3_swap_119 : decode cX3_swap 119 = .ok (.iload_n 3, 1) := by decide +kernel
theorem dX3_swap_120 : decode cX3_swap 120 = .ok (.bipush (-4), 2) := by decide +kernel
theorem dX3_swap_122 : decode cX3_swap 122 = .ok (.if_icmp .eq 7, 3) := by decide +kernel
theorem dX3_swap_125 : decode cX3_swap 125 = .ok (.iload_n 2, 1) := by decide +kernel
theorem dX3_swap_126 : decode cX3_swap 126 = .ok (.ifCond .ne 7, 3) := by decide +kernel
theorem dX3_swap_129 : decode cX3_swap 129 = .ok (.iload_n 3, 1) := by decide +kernel
theorem dX3_swap_130 : decode cX3_swap 130 = .ok (.goto 5, 3) := by decide +kernel
theorem dX3_swap_133 : decode cX3_swap 133 = .ok (.iload 4, 2) := by decide +kernel
theorem dX3_swap_135 : decode cX3_swap 135 = .ok (.ireturn, 1) := by decide +kernel
theorem dX3_omit_0 : decode cX3_omit 0 = .ok (.iload_n 1, 1) := by decide +kernel
theorem dX3_omit_1 : decode cX3_omit 1 = .ok (.iload_n 2, 1) := by decide +kernel
theorem dX3_omit_2 : decode cX3_omit 2 = .ok (.invokestatic 188, 3) := by decide +kernel
theorem dX3_omit_5 : decode cX3_omit 5 = .ok (.ifCond .ne 5, 3) := by decide +kernel
theorem dX3_omit_8 : decode cX3_omit 8 = .ok (.iconst (-1), 1) := by decide +kernel
theorem dX3_omit_9 : decode cX3_omit 9 = .ok (.ireturn, 1) := by decide +kernel
theorem dX3_omit_10 : decode cX3_omit 10 = .ok (.bipush (-4), 2) := by decide +kernel
theorem dX3_omit_12 : decode cX3_omit 12 = .ok (.istore_n 3, 1) := by decide +kernel
theorem dX3_omit_13 : decode cX3_omit 13 = .ok (.aload_n 0, 1) := by decide +kernel
theorem dX3_omit_14 : decode cX3_omit 14 = .ok (.iload_n 1, 1) := by decide +kernel
theorem dX3_omit_15 : decode cX3_omit 15 = .ok (.invokevirtual 192, 3) := by decide +kernel
theorem dX3_omit_18 : decode cX3_omit 18 = .ok (.istore 4, 2) := by decide +kernel
theorem dX3_omit_20 : decode cX3_omit 20 = .ok (.iconst 0, 1) := by decide +kernel
theorem dX3_omit_21 : decode cX3_omit 21 = .ok (.istore 5, 2) := by decide +kernel
theorem dX3_omit_23 : decode cX3_omit 23 = .ok (.iload 5, 2) := by decide +kernel
theorem dX3_omit_25 : decode cX3_omit 25 = .ok (.aload_n 0, 1) := by decide +kernel
theorem dX3_omit_26 : decode cX3_omit 26 = .ok (.getfield 10, 3) := by decide +kernel
theorem dX3_omit_29 : decode cX3_omit 29 = .ok (.getfield 92, 3) := by decide +kernel
theorem dX3_omit_32 : decode cX3_omit 32 = .ok (.if_icmp .ge 63, 3) := by decide +kernel
theorem dX3_omit_35 : decode cX3_omit 35 = .ok (.aload_n 0, 1) := by decide +kernel
theorem dX3_omit_36 : decode cX3_omit 36 = .ok (.getfield 16, 3) := by decide +kernel
theorem dX3_omit_39 : decode cX3_omit 39 = .ok (.aload_n 0, 1) := by decide +kernel
theorem dX3_omit_40 : decode cX3_omit 40 = .ok (.getfield 10, 3) := by decide +kernel
theorem dX3_omit_43 : decode cX3_omit 43 = .ok (.invokevirtual 164, 3) := by decide +kernel
theorem dX3_omit_46 : decode cX3_omit 46 = .ok (.aload_n 0, 1) := by decide +kernel
theorem dX3_omit_47 : decode cX3_omit 47 = .ok (.getfield 16, 3) := by decide +kernel
theorem dX3_omit_50 : decode cX3_omit 50 = .ok (.getfield 143, 3) := by decide +kernel
theorem dX3_omit_53 : decode cX3_omit 53 = .ok (.iload 5, 2) := by decide +kernel
theorem dX3_omit_55 : decode cX3_omit 55 = .ok (.iconst 0, 1) := by decide +kernel
theorem dX3_omit_56 : decode cX3_omit 56 = .ok (.iastore, 1) := by decide +kernel
theorem dX3_omit_57 : decode cX3_omit 57 = .ok (.aload_n 0, 1) := by decide +kernel
theorem dX3_omit_58 : decode cX3_omit 58 = .ok (.getfield 16, 3) := by decide +kernel
theorem dX3_omit_61 : decode cX3_omit 61 = .ok (.iload_n 1, 1) := by decide +kernel
theorem dX3_omit_62 : decode cX3_omit 62 = .ok (.invokevirtual 161, 3) := by decide +kernel
theorem dX3_omit_65 : decode cX3_omit 65 = .ok (.aload_n 0, 1) := by decide +kernel
theorem dX3_omit_66 : decode cX3_omit 66 = .ok (.getfield 16, 3) := by decide +kernel
theorem dX3_omit_69 : decode cX3_omit 69 = .ok (.getfield 98, 3) := by decide +kernel
theorem dX3_omit_72 : decode cX3_omit 72 = .ok (.iload 4, 2) := by decide +kernel
theorem dX3_omit_74 : decode cX3_omit 74 = .ok (.if_icmp .le 15, 3) := by decide +kernel
theorem dX3_omit_77 : decode cX3_omit 77 = .ok (.aload_n 0, 1) := by decide +kernel
theorem dX3_omit_78 : decode cX3_omit 78 = .ok (.getfield 16, 3) := by decide +kernel
theorem dX3_omit_81 : decode cX3_omit 81 = .ok (.getfield 98, 3) := by decide +kernel
theorem dX3_omit_84 : decode cX3_omit 84 = .ok (.istore 4, 2) := by decide +kernel
theorem dX3_omit_86 : decode cX3_omit 86 = .ok (.iload 5, 2) := by decide +kernel
theorem dX3_omit_88 : decode cX3_omit 88 = .ok (.istore_n 3, 1) := by decide +kernel
theorem dX3_omit_89 : decode cX3_omit 89 = .ok (.iinc 5 1, 3) := by decide +kernel
theorem dX3_omit_92 : decode cX3_omit 92 = .ok (.goto (-69), 3) := by decide +kernel
theorem dX3_omit_95 : decode cX3_omit 95 = .ok (.iload_n 3, 1) := by decide +kernel
theorem dX3_omit_96 : decode cX3_omit 96 = .ok (.bipush (-4), 2) := by decide +kernel
theorem dX3_omit_98 : decode cX3_omit 98 = .ok (.if_icmp .eq 7, 3) := by decide +kernel
theorem dX3_omit_101 : decode cX3_omit 101 = .ok (.iload_n 2, 1) := by decide +kernel
theorem dX3_omit_102 : decode cX3_omit 102 = .ok (.ifCond .ne 7, 3) := by decide +kernel
theorem dX3_omit_105 : decode cX3_omit 105 = .ok (.iload_n 3, 1) := by decide +kernel
theorem dX3_omit_106 : decode cX3_omit 106 = .ok (.goto 5, 3) := by decide +kernel
theorem dX3_omit_109 : decode cX3_omit 109 = .ok (.iload 4, 2) := by decide +kernel
theorem dX3_omit_111 : decode cX3_omit 111 = .ok (.ireturn, 1) := by decide +kernel
theorem dX3_off_0 : decode cX3_off 0 = .ok (.iload_n 1, 1) := by decide +kernel
theorem dX3_off_1 : decode cX3_off 1 = .ok (.iload_n 2, 1) := by decide +kernel
theorem dX3_off_2 : decode cX3_off 2 = .ok (.invokestatic 188, 3) := by decide +kernel
theorem dX3_off_5 : decode cX3_off 5 = .ok (.ifCond .ne 5, 3) := by decide +kernel
theorem dX3_off_8 : decode cX3_off 8 = .ok (.iconst (-1), 1) := by decide +kernel
theorem dX3_off_9 : decode cX3_off 9 = .ok (.ireturn, 1) := by decide +kernel
theorem dX3_off_10 : decode cX3_off 10 = .ok (.bipush (-4), 2) := by decide +kernel
theorem dX3_off_12 : decode cX3_off 12 = .ok (.istore_n 3, 1) := by decide +kernel
theorem dX3_off_13 : decode cX3_off 13 = .ok (.aload_n 0, 1) := by decide +kernel
theorem dX3_off_14 : decode cX3_off 14 = .ok (.iload_n 1, 1) := by decide +kernel
theorem dX3_off_15 : decode cX3_off 15 = .ok (.invokevirtual 192, 3) := by decide +kernel
theorem dX3_off_18 : decode cX3_off 18 = .ok (.istore 4, 2) := by decide +kernel
theorem dX3_off_20 : decode cX3_off 20 = .ok (.iconst 0, 1) := by decide +kernel
theorem dX3_off_21 : decode cX3_off 21 = .ok (.istore 5, 2) := by decide +kernel
theorem dX3_off_23 : decode cX3_off 23 = .ok (.iload 5, 2) := by decide +kernel
theorem dX3_off_25 : decode cX3_off 25 = .ok (.aload_n 0, 1) := by decide +kernel
theorem dX3_off_26 : decode cX3_off 26 = .ok (.getfield 10, 3) := by decide +kernel
theorem dX3_off_29 : decode cX3_off 29 = .ok (.getfield 89, 3) := by decide +kernel
theorem dX3_off_32 : decode cX3_off 32 = .ok (.if_icmp .ge 61, 3) := by decide +kernel
theorem dX3_off_35 : decode cX3_off 35 = .ok (.aload_n 0, 1) := by decide +kernel
theorem dX3_off_36 : decode cX3_off 36 = .ok (.getfield 16, 3) := by decide +kernel
theorem dX3_off_39 : decode cX3_off 39 = .ok (.aload_n 0, 1) := by decide +kernel
theorem dX3_off_40 : decode cX3_off 40 = .ok (.getfield 10, 3) := by decide +kernel
theorem dX3_off_43 : decode cX3_off 43 = .ok (.invokevirtual 164, 3) := by decide +kernel
theorem dX3_off_46 : decode cX3_off 46 = .ok (.aload_n 0, 1) := by decide +kernel
theorem dX3_off_47 : decode cX3_off 47 = .ok (.getfield 16, 3) := by decide +kernel
theorem dX3_off_50 : decode cX3_off 50 = .ok (.iload 5, 2) := by decide +kernel
theorem dX3_off_52 : decode cX3_off 52 = .ok (.invokevirtual 198, 3) := by decide +kernel
theorem dX3_off_55 : decode cX3_off 55 = .ok (.aload_n 0, 1) := by decide +kernel
theorem dX3_off_56 : decode cX3_off 56 = .ok (.getfield 16, 3) := by decide +kernel
theorem dX3_off_59 : decode cX3_off 59 = .ok (.iload_n 1, 1) := by decide +kernel
theorem dX3_off_60 : decode cX3_off 60 = .ok (.invokevirtual 161, 3) := by decide +kernel
theorem dX3_off_63 : decode cX3_off 63 = .ok (.aload_n 0, 1) := by decide +kernel
theorem dX3_off_64 : decode cX3_off 64 = .ok (.getfield 16, 3) := by decide +kernel
theorem dX3_off_67 : decode cX3_off 67 = .ok (.getfield 98, 3) := by decide +kernel
theorem dX3_off_70 : decode cX3_off 70 = .ok (.iload 4, 2) := by decide +kernel
theorem dX3_off_72 : decode cX3_off 72 = .ok (.if_icmp .le 15, 3) := by decide +kernel
theorem dX3_off_75 : decode cX3_off 75 = .ok (.aload_n 0, 1) := by decide +kernel
theorem dX3_off_76 : decode cX3_off 76 = .ok (.getfield 16, 3) := by decide +kernel
theorem dX3_off_79 : decode cX3_off 79 = .ok (.getfield 98, 3) := by decide +kernel
theorem dX3_off_82 : decode cX3_off 82 = .ok (.istore 4, 2) := by decide +kernel
theorem dX3_off_84 : decode cX3_off 84 = .ok (.iload 5, 2) := by decide +kernel
theorem dX3_off_86 : decode cX3_off 86 = .ok (.istore_n 3, 1) := by decide +kernel
theorem dX3_off_87 : decode cX3_off 87 = .ok (.iinc 5 1, 3) := by decide +kernel
theorem dX3_off_90 : decode cX3_off 90 = .ok (.goto (-67), 3) := by decide +kernel
theorem dX3_off_93 : decode cX3_off 93 = .ok (.iload_n 3, 1) := by decide +kernel
theorem dX3_off_94 : decode cX3_off 94 = .ok (.bipush (-4), 2) := by decide +kernel
theorem dX3_off_96 : decode cX3_off 96 = .ok (.if_icmp .eq 7, 3) := by decide +kernel
theorem dX3_off_99 : decode cX3_off 99 = .ok (.iload_n 2, 1) := by decide +kernel
theorem dX3_off_100 : decode cX3_off 100 = .ok (.ifCond .ne 7, 3) := by decide +kernel
theorem dX3_off_103 : decode cX3_off 103 = .ok (.iload_n 3, 1) := by decide +kernel
theorem dX3_off_104 : decode cX3_off 104 = .ok (.goto 5, 3) := by decide +kernel
theorem dX3_off_107 : decode cX3_off 107 = .ok (.iload 4, 2) := by decide +kernel
theorem dX3_off_109 : decode cX3_off 109 = .ok (.ireturn, 1) := by decide +kernel
theorem dX3_luck_0 : decode cX3_luck 0 = .ok (.iload_n 1, 1) := by decide +kernel
theorem dX3_luck_1 : decode cX3_luck 1 = .ok (.iload_n 2, 1) := by decide +kernel
theorem dX3_luck_2 : decode cX3_luck 2 = .ok (.iload_n 3, 1) := by decide +kernel
theorem dX3_luck_3 : decode cX3_luck 3 = .ok (.invokestatic 201, 3) := by decide +kernel
theorem dX3_luck_6 : decode cX3_luck 6 = .ok (.ifCond .ne 7, 3) := by decide +kernel
theorem dX3_luck_9 : decode cX3_luck 9 = .ok (.ldc2_w 204, 3) := by decide +kernel
theorem dX3_luck_12 : decode cX3_luck 12 = .ok (.lreturn, 1) := by decide +kernel
theorem dX3_luck_13 : decode cX3_luck 13 = .ok (.lconst 0, 1) := by decide +kernel
theorem dX3_luck_14 : decode cX3_luck 14 = .ok (.lstore 4, 2) := by decide +kernel
theorem dX3_luck_16 : decode cX3_luck 16 = .ok (.iconst 0, 1) := by decide +kernel
theorem dX3_luck_17 : decode cX3_luck 17 = .ok (.istore 6, 2) := by decide +kernel
theorem dX3_luck_19 : decode cX3_luck 19 = .ok (.iload 6, 2) := by decide +kernel
theorem dX3_luck_21 : decode cX3_luck 21 = .ok (.iconst 1, 1) := by decide +kernel
theorem dX3_luck_22 : decode cX3_luck 22 = .ok (.iload_n 2, 1) := by decide +kernel
theorem dX3_luck_23 : decode cX3_luck 23 = .ok (.ishl, 1) := by decide +kernel
theorem dX3_luck_24 : decode cX3_luck 24 = .ok (.if_icmp .ge 38, 3) := by decide +kernel
theorem dX3_luck_27 : decode cX3_luck 27 = .ok (.aload_n 0, 1) := by decide +kernel
theorem dX3_luck_28 : decode cX3_luck 28 = .ok (.iload 6, 2) := by decide +kernel
theorem dX3_luck_30 : decode cX3_luck 30 = .ok (.iload_n 2, 1) := by decide +kernel
theorem dX3_luck_31 : decode cX3_luck 31 = .ok (.invokevirtual 206, 3) := by decide +kernel
theorem dX3_luck_34 : decode cX3_luck 34 = .ok (.aload_n 0, 1) := by decide +kernel
theorem dX3_luck_35 : decode cX3_luck 35 = .ok (.getfield 16, 3) := by decide +kernel
theorem dX3_luck_38 : decode cX3_luck 38 = .ok (.getfield 101, 3) := by decide +kernel
theorem dX3_luck_41 : decode cX3_luck 41 = .ok (.ifCond .ne 15, 3) := by decide +kernel
theorem dX3_luck_44 : decode cX3_luck 44 = .ok (.lload 4, 2) := by decide +kernel
theorem dX3_luck_46 : decode cX3_luck 46 = .ok (.iload 6, 2) := by decide +kernel
theorem dX3_luck_48 : decode cX3_luck 48 = .ok (.iload_n 1, 1) := by decide +kernel
theorem dX3_luck_49 : decode cX3_luck 49 = .ok (.iload_n 2, 1) := by decide +kernel
theorem dX3_luck_50 : decode cX3_luck 50 = .ok (.invokestatic 210, 3) := by decide +kernel
theorem dX3_luck_53 : decode cX3_luck 53 = .ok (.ladd, 1) := by decide +kernel
theorem dX3_luck_54 : decode cX3_luck 54 = .ok (.lstore 4, 2) := by decide +kernel
theorem dX3_luck_56 : decode cX3_luck 56 = .ok (.iinc 6 1, 3) := by decide +kernel
theorem dX3_luck_59 : decode cX3_luck 59 = .ok (.goto (-40), 3) := by decide +kernel
theorem dX3_luck_62 : decode cX3_luck 62 = .ok (.lload 4, 2) := by decide +kernel
theorem dX3_luck_64 : decode cX3_luck 64 = .ok (.iload_n 2, 1) := by decide +kernel
theorem dX3_luck_65 : decode cX3_luck 65 = .ok (.invokestatic 214, 3) := by decide +kernel
theorem dX3_luck_68 : decode cX3_luck 68 = .ok (.iload_n 3, 1) := by decide +kernel
theorem dX3_luck_69 : decode cX3_luck 69 = .ok (.invokestatic 218, 3) := by decide +kernel
theorem dX3_luck_72 : decode cX3_luck 72 = .ok (.lreturn, 1) := by decide +kernel
theorem dX3_mean_0 : decode cX3_mean 0 = .ok (.iload_n 1, 1) := by decide +kernel
theorem dX3_mean_1 : decode cX3_mean 1 = .ok (.iload_n 2, 1) := by decide +kernel
theorem dX3_mean_2 : decode cX3_mean 2 = .ok (.iload_n 3, 1) := by decide +kernel
theorem dX3_mean_3 : decode cX3_mean 3 = .ok (.invokestatic 201, 3) := by decide +kernel
theorem dX3_mean_6 : decode cX3_mean 6 = .ok (.ifCond .ne 7, 3) := by decide +kernel
theorem dX3_mean_9 : decode cX3_mean 9 = .ok (.ldc2_w 204, 3) := by decide +kernel
theorem dX3_mean_12 : decode cX3_mean 12 = .ok (.lreturn, 1) := by decide +kernel
theorem dX3_mean_13 : decode cX3_mean 13 = .ok (.lconst 0, 1) := by decide +kernel
theorem dX3_mean_14 : decode cX3_mean 14 = .ok (.lstore 4, 2) := by decide +kernel
theorem dX3_mean_16 : decode cX3_mean 16 = .ok (.iconst 0, 1) := by decide +kernel
theorem dX3_mean_17 : decode cX3_mean 17 = .ok (.istore 6, 2) := by decide +kernel
theorem dX3_mean_19 : decode cX3_mean 19 = .ok (.iload 6, 2) := by decide +kernel
theorem dX3_mean_21 : decode cX3_mean 21 = .ok (.iconst 1, 1) := by decide +kernel
theorem dX3_mean_22 : decode cX3_mean 22 = .ok (.iload_n 2, 1) := by decide +kernel
theorem dX3_mean_23 : decode cX3_mean 23 = .ok (.ishl, 1) := by decide +kernel
theorem dX3_mean_24 : decode cX3_mean 24 = .ok (.if_icmp .ge 37, 3) := by decide +kernel
theorem dX3_mean_27 : decode cX3_mean 27 = .ok (.aload_n 0, 1) := by decide +kernel
theorem dX3_mean_28 : decode cX3_mean 28 = .ok (.iload 6, 2) := by decide +kernel
theorem dX3_mean_30 : decode cX3_mean 30 = .ok (.iload_n 2, 1) := by decide +kernel
theorem dX3_mean_31 : decode cX3_mean 31 = .ok (.invokevirtual 206, 3) := by decide +kernel
theorem dX3_mean_34 : decode cX3_mean 34 = .ok (.lload 4, 2) := by decide +kernel
theorem dX3_mean_36 : decode cX3_mean 36 = .ok (.aload_n 0, 1) := by decide +kernel
theorem dX3_mean_37 : decode cX3_mean 37 = .ok (.getfield 16, 3) := by decide +kernel
theorem dX3_mean_40 : decode cX3_mean 40 = .ok (.getfield 98, 3) := by decide +kernel
theorem dX3_mean_43 : decode cX3_mean 43 = .ok (.i2l, 1) := by decide +kernel
theorem dX3_mean_44 : decode cX3_mean 44 = .ok (.iload 6, 2) := by decide +kernel
theorem dX3_mean_46 : decode cX3_mean 46 = .ok (.iload_n 1, 1) := by decide +kernel
theorem dX3_mean_47 : decode cX3_mean 47 = .ok (.iload_n 2, 1) := by decide +kernel
theorem dX3_mean_48 : decode cX3_mean 48 = .ok (.invokestatic 210, 3) := by decide +kernel
theorem dX3_mean_51 : decode cX3_mean 51 = .ok (.lmul, 1) := by decide +kernel
theorem dX3_mean_52 : decode cX3_mean 52 = .ok (.ladd, 1) := by decide +kernel
theorem dX3_mean_53 : decode cX3_mean 53 = .ok (.lstore 4, 2) := by decide +kernel
theorem dX3_mean_55 : decode cX3_mean 55 = .ok (.iinc 6 1, 3) := by decide +kernel
theorem dX3_mean_58 : decode cX3_mean 58 = .ok (.goto (-39), 3) := by decide +kernel
theorem dX3_mean_61 : decode cX3_mean 61 = .ok (.lload 4, 2) := by decide +kernel
theorem dX3_mean_63 : decode cX3_mean 63 = .ok (.iload_n 2, 1) := by decide +kernel
theorem dX3_mean_64 : decode cX3_mean 64 = .ok (.invokestatic 214, 3) := by decide +kernel
theorem dX3_mean_67 : decode cX3_mean 67 = .ok (.iload_n 3, 1) := by decide +kernel
theorem dX3_mean_68 : decode cX3_mean 68 = .ok (.invokestatic 218, 3) := by decide +kernel
theorem dX3_mean_71 : decode cX3_mean 71 = .ok (.lreturn, 1) := by decide +kernel
theorem dX3_see_0 : decode cX3_see 0 = .ok (.iload_n 1, 1) := by decide +kernel
theorem dX3_see_1 : decode cX3_see 1 = .ok (.iconst 0, 1) := by decide +kernel
theorem dX3_see_2 : decode cX3_see 2 = .ok (.bipush 40, 2) := by decide +kernel
theorem dX3_see_4 : decode cX3_see 4 = .ok (.invokestatic 67, 3) := by decide +kernel
theorem dX3_see_7 : decode cX3_see 7 = .ok (.ifCond .eq 24, 3) := by decide +kernel
theorem dX3_see_10 : decode cX3_see 10 = .ok (.aload_n 0, 1) := by decide +kernel
theorem dX3_see_11 : decode cX3_see 11 = .ok (.getfield 10, 3) := by decide +kernel
theorem dX3_see_14 : decode cX3_see 14 = .ok (.iload_n 2, 1) := by decide +kernel
theorem dX3_see_15 : decode cX3_see 15 = .ok (.invokevirtual 117, 3) := by decide +kernel
theorem dX3_see_18 : decode cX3_see 18 = .ok (.ifCond .eq 13, 3) := by decide +kernel
theorem dX3_see_21 : decode cX3_see 21 = .ok (.iload_n 3, 1) := by decide +kernel
theorem dX3_see_22 : decode cX3_see 22 = .ok (.iconst 0, 1) := by decide +kernel
theorem dX3_see_23 : decode cX3_see 23 = .ok (.ldc 222, 2) := by decide +kernel
theorem dX3_see_25 : decode cX3_see 25 = .ok (.invokestatic 67, 3) := by decide +kernel
theorem dX3_see_28 : decode cX3_see 28 = .ok (.ifCond .ne 5, 3) := by decide +kernel
theorem dX3_see_31 : decode cX3_see 31 = .ok (.iconst (-1), 1) := by decide +kernel
theorem dX3_see_32 : decode cX3_see 32 = .ok (.ireturn, 1) := by decide +kernel
theorem dX3_see_33 : decode cX3_see 33 = .ok (.aload_n 0, 1) := by decide +kernel
theorem dX3_see_34 : decode cX3_see 34 = .ok (.getfield 53, 3) := by decide +kernel
theorem dX3_see_37 : decode cX3_see 37 = .ok (.bipush 6, 2) := by decide +kernel
theorem dX3_see_39 : decode cX3_see 39 = .ok (.if_icmp .lt 6, 3) := by decide +kernel
theorem dX3_see_42 : decode cX3_see 42 = .ok (.bipush (-3), 2) := by decide +kernel
theorem dX3_see_44 : decode cX3_see 44 = .ok (.ireturn, 1) := by decide +kernel
theorem dX3_see_45 : decode cX3_see 45 = .ok (.aload_n 0, 1) := by decide +kernel
theorem dX3_see_46 : decode cX3_see 46 = .ok (.getfield 43, 3) := by decide +kernel
theorem dX3_see_49 : decode cX3_see 49 = .ok (.aload_n 0, 1) := by decide +kernel
theorem dX3_see_50 : decode cX3_see 50 = .ok (.getfield 53, 3) := by decide +kernel
theorem dX3_see_53 : decode cX3_see 53 = .ok (.iload_n 1, 1) := by decide +kernel
theorem dX3_see_54 : decode cX3_see 54 = .ok (.iastore, 1) := by decide +kernel
theorem dX3_see_55 : decode cX3_see 55 = .ok (.aload_n 0, 1) := by decide +kernel
theorem dX3_see_56 : decode cX3_see 56 = .ok (.getfield 47, 3) := by decide +kernel
theorem dX3_see_59 : decode cX3_see 59 = .ok (.aload_n 0, 1) := by decide +kernel
theorem dX3_see_60 : decode cX3_see 60 = .ok (.getfield 53, 3) := by decide +kernel
theorem dX3_see_63 : decode cX3_see 63 = .ok (.iload_n 2, 1) := by decide +kernel
theorem dX3_see_64 : decode cX3_see 64 = .ok (.iastore, 1) := by decide +kernel
theorem dX3_see_65 : decode cX3_see 65 = .ok (.aload_n 0, 1) := by decide +kernel
theorem dX3_see_66 : decode cX3_see 66 = .ok (.getfield 50, 3) := by decide +kernel
theorem dX3_see_69 : decode cX3_see 69 = .ok (.aload_n 0, 1) := by decide +kernel
theorem dX3_see_70 : decode cX3_see 70 = .ok (.getfield 53, 3) := by decide +kernel
theorem dX3_see_73 : decode cX3_see 73 = .ok (.iload_n 3, 1) := by decide +kernel
theorem dX3_see_74 : decode cX3_see 74 = .ok (.iastore, 1) := by decide +kernel
theorem dX3_see_75 : decode cX3_see 75 = .ok (.aload_n 0, 1) := by decide +kernel
theorem dX3_see_76 : decode cX3_see 76 = .ok (.dup, 1) := by decide +kernel
theorem dX3_see_77 : decode cX3_see 77 = .ok (.getfield 53, 3) := by decide +kernel
theorem dX3_see_80 : decode cX3_see 80 = .ok (.iconst 1, 1) := by decide +kernel
theorem dX3_see_81 : decode cX3_see 81 = .ok (.iadd, 1) := by decide +kernel
theorem dX3_see_82 : decode cX3_see 82 = .ok (.putfield 53, 3) := by decide +kernel
theorem dX3_see_85 : decode cX3_see 85 = .ok (.aload_n 0, 1) := by decide +kernel
theorem dX3_see_86 : decode cX3_see 86 = .ok (.getfield 53, 3) := by decide +kernel
theorem dX3_see_89 : decode cX3_see 89 = .ok (.ireturn, 1) := by decide +kernel
theorem dX3_forget_0 : decode cX3_forget 0 = .ok (.iload_n 1, 1) := by decide +kernel
theorem dX3_forget_1 : decode cX3_forget 1 = .ok (.iconst 0, 1) := by decide +kernel
theorem dX3_forget_2 : decode cX3_forget 2 = .ok (.aload_n 0, 1) := by decide +kernel
theorem dX3_forget_3 : decode cX3_forget 3 = .ok (.getfield 53, 3) := by decide +kernel
theorem dX3_forget_6 : decode cX3_forget 6 = .ok (.invokestatic 67, 3) := by decide +kernel
theorem dX3_forget_9 : decode cX3_forget 9 = .ok (.ifCond .ne 5, 3) := by decide +kernel
theorem dX3_forget_12 : decode cX3_forget 12 = .ok (.iconst (-1), 1) := by decide +kernel
theorem dX3_forget_13 : decode cX3_forget 13 = .ok (.ireturn, 1) := by decide +kernel
theorem dX3_forget_14 : decode cX3_forget 14 = .ok (.aload_n 0, 1) := by decide +kernel
theorem dX3_forget_15 : decode cX3_forget 15 = .ok (.getfield 53, 3) := by decide +kernel
theorem dX3_forget_18 : decode cX3_forget 18 = .ok (.istore_n 2, 1) := by decide +kernel
theorem dX3_forget_19 : decode cX3_forget 19 = .ok (.aload_n 0, 1) := by decide +kernel
theorem dX3_forget_20 : decode cX3_forget 20 = .ok (.iload_n 1, 1) := by decide +kernel
theorem dX3_forget_21 : decode cX3_forget 21 = .ok (.putfield 53, 3) := by decide +kernel
theorem dX3_forget_24 : decode cX3_forget 24 = .ok (.iload_n 2, 1) := by decide +kernel
theorem dX3_forget_25 : decode cX3_forget 25 = .ok (.ireturn, 1) := by decide +kernel
theorem dX3_kinds_0 : decode cX3_kinds 0 = .ok (.aload_n 0, 1) := by decide +kernel
theorem dX3_kinds_1 : decode cX3_kinds 1 = .ok (.getfield 10, 3) := by decide +kernel
theorem dX3_kinds_4 : decode cX3_kinds 4 = .ok (.iload_n 1, 1) := by decide +kernel
theorem dX3_kinds_5 : decode cX3_kinds 5 = .ok (.invokevirtual 117, 3) := by decide +kernel
theorem dX3_kinds_8 : decode cX3_kinds 8 = .ok (.ifCond .ne 5, 3) := by decide +kernel
theorem dX3_kinds_11 : decode cX3_kinds 11 = .ok (.iconst (-1), 1) := by decide +kernel
theorem dX3_kinds_12 : decode cX3_kinds 12 = .ok (.ireturn, 1) := by decide +kernel
theorem dX3_kinds_13 : decode cX3_kinds 13 = .ok (.iconst 0, 1) := by decide +kernel
theorem dX3_kinds_14 : decode cX3_kinds 14 = .ok (.istore_n 2, 1) := by decide +kernel
theorem dX3_kinds_15 : decode cX3_kinds 15 = .ok (.iconst 0, 1) := by decide +kernel
theorem dX3_kinds_16 : decode cX3_kinds 16 = .ok (.istore_n 3, 1) := by decide +kernel
theorem dX3_kinds_17 : decode cX3_kinds 17 = .ok (.iload_n 3, 1) := by decide +kernel
theorem dX3_kinds_18 : decode cX3_kinds 18 = .ok (.iconst 3, 1) := by decide +kernel
theorem dX3_kinds_19 : decode cX3_kinds 19 = .ok (.if_icmp .gt 43, 3) := by decide +kernel
theorem dX3_kinds_22 : decode cX3_kinds 22 = .ok (.aload_n 0, 1) := by decide +kernel
theorem dX3_kinds_23 : decode cX3_kinds 23 = .ok (.getfield 16, 3) := by decide +kernel
theorem dX3_kinds_26 : decode cX3_kinds 26 = .ok (.aload_n 0, 1) := by decide +kernel
theorem dX3_kinds_27 : decode cX3_kinds 27 = .ok (.getfield 10, 3) := by decide +kernel
theorem dX3_kinds_30 : decode cX3_kinds 30 = .ok (.invokevirtual 164, 3) := by decide +kernel
theorem dX3_kinds_33 : decode cX3_kinds 33 = .ok (.aload_n 0, 1) := by decide +kernel
theorem dX3_kinds_34 : decode cX3_kinds 34 = .ok (.getfield 16, 3) := by decide +kernel
theorem dX3_kinds_37 : decode cX3_kinds 37 = .ok (.getfield 121, 3) := by decide +kernel
theorem dX3_kinds_40 : decode cX3_kinds 40 = .ok (.iload_n 1, 1) := by decide +kernel
theorem dX3_kinds_41 : decode cX3_kinds 41 = .ok (.iload_n 3, 1) := by decide +kernel
theorem dX3_kinds_42 : decode cX3_kinds 42 = .ok (.iastore, 1) := by decide +kernel
theorem dX3_kinds_43 : decode cX3_kinds 43 = .ok (.aload_n 0, 1) := by decide +kernel
theorem dX3_kinds_44 : decode cX3_kinds 44 = .ok (.invokevirtual 223, 3) := by decide +kernel
theorem dX3_kinds_47 : decode cX3_kinds 47 = .ok (.ifCond .eq 9, 3) := by decide +kernel
theorem dX3_kinds_50 : decode cX3_kinds 50 = .ok (.iload_n 2, 1) := by decide +kernel
theorem dX3_kinds_51 : decode cX3_kinds 51 = .ok (.iconst 1, 1) := by decide +kernel
theorem dX3_kinds_52 : decode cX3_kinds 52 = .ok (.iload_n 3, 1) := by decide +kernel
theorem dX3_kinds_53 : decode cX3_kinds 53 = .ok (.ishl, 1) := by decide +kernel
theorem dX3_kinds_54 : decode cX3_kinds 54 = .ok (.ior, 1) := by decide +kernel
theorem dX3_kinds_55 : decode cX3_kinds 55 = .ok (.istore_n 2, 1) := by decide +kernel
theorem dX3_kinds_56 : decode cX3_kinds 56 = .ok (.iinc 3 1, 3) := by decide +kernel
theorem dX3_kinds_59 : decode cX3_kinds 59 = .ok (.goto (-42), 3) := by decide +kernel
theorem dX3_kinds_62 : decode cX3_kinds 62 = .ok (.iload_n 2, 1) := by decide +kernel
theorem dX3_kinds_63 : decode cX3_kinds 63 = .ok (.ireturn, 1) := by decide +kernel
theorem dX3_losses_0 : decode cX3_losses 0 = .ok (.aload_n 0, 1) := by decide +kernel
theorem dX3_losses_1 : decode cX3_losses 1 = .ok (.getfield 10, 3) := by decide +kernel
theorem dX3_losses_4 : decode cX3_losses 4 = .ok (.iload_n 1, 1) := by decide +kernel
theorem dX3_losses_5 : decode cX3_losses 5 = .ok (.invokevirtual 117, 3) := by decide +kernel
theorem dX3_losses_8 : decode cX3_losses 8 = .ok (.ifCond .eq 11, 3) := by decide +kernel
theorem dX3_losses_11 : decode cX3_losses 11 = .ok (.aload_n 0, 1) := by decide +kernel
theorem dX3_losses_12 : decode cX3_losses 12 = .ok (.iload_n 1, 1) := by decide +kernel
theorem dX3_losses_13 : decode cX3_losses 13 = .ok (.invokevirtual 227, 3) := by decide +kernel
theorem dX3_losses_16 : decode cX3_losses 16 = .ok (.goto 4, 3) := by decide +kernel
theorem dX3_losses_19 : decode cX3_losses 19 = .ok (.iconst (-1), 1) := by decide +kernel
theorem dX3_losses_20 : decode cX3_losses 20 = .ok (.ireturn, 1) := by decide +kernel
theorem dX3_ask_0 : decode cX3_ask 0 = .ok (.aload_n 0, 1) := by decide +kernel
theorem dX3_ask_1 : decode cX3_ask 1 = .ok (.getfield 10, 3) := by decide +kernel
theorem dX3_ask_4 : decode cX3_ask 4 = .ok (.iload_n 1, 1) := by decide +kernel
theorem dX3_ask_5 : decode cX3_ask 5 = .ok (.invokevirtual 117, 3) := by decide +kernel
theorem dX3_ask_8 : decode cX3_ask 8 = .ok (.ifCond .eq 12, 3) := by decide +kernel
theorem dX3_ask_11 : decode cX3_ask 11 = .ok (.iload_n 2, 1) := by decide +kernel
theorem dX3_ask_12 : decode cX3_ask 12 = .ok (.iconst 0, 1) := by decide +kernel
theorem dX3_ask_13 : decode cX3_ask 13 = .ok (.iconst 1, 1) := by decide +kernel
theorem dX3_ask_14 : decode cX3_ask 14 = .ok (.invokestatic 67, 3) := by decide +kernel
theorem dX3_ask_17 : decode cX3_ask 17 = .ok (.ifCond .ne 5, 3) := by decide +kernel
theorem dX3_ask_20 : decode cX3_ask 20 = .ok (.iconst (-1), 1) := by decide +kernel
theorem dX3_ask_21 : decode cX3_ask 21 = .ok (.ireturn, 1) := by decide +kernel
theorem dX3_ask_22 : decode cX3_ask 22 = .ok (.aload_n 0, 1) := by decide +kernel
theorem dX3_ask_23 : decode cX3_ask 23 = .ok (.iload_n 1, 1) := by decide +kernel
theorem dX3_ask_24 : decode cX3_ask 24 = .ok (.invokevirtual 227, 3) := by decide +kernel
theorem dX3_ask_27 : decode cX3_ask 27 = .ok (.istore_n 3, 1) := by decide +kernel
theorem dX3_ask_28 : decode cX3_ask 28 = .ok (.aload_n 0, 1) := by decide +kernel
theorem dX3_ask_29 : decode cX3_ask 29 = .ok (.iload_n 1, 1) := by decide +kernel
theorem dX3_ask_30 : decode cX3_ask 30 = .ok (.iload_n 3, 1) := by decide +kernel
theorem dX3_ask_31 : decode cX3_ask 31 = .ok (.invokevirtual 230, 3) := by decide +kernel
theorem dX3_ask_34 : decode cX3_ask 34 = .ok (.bipush (-4), 2) := by decide +kernel
theorem dX3_ask_36 : decode cX3_ask 36 = .ok (.istore 4, 2) := by decide +kernel
theorem dX3_ask_38 : decode cX3_ask 38 = .ok (.iload_n 3, 1) := by decide +kernel
theorem dX3_ask_39 : decode cX3_ask 39 = .ok (.invokestatic 233, 3) := by decide +kernel
theorem dX3_ask_42 : decode cX3_ask 42 = .ok (.istore 5, 2) := by decide +kernel
theorem dX3_ask_44 : decode cX3_ask 44 = .ok (.iconst 0, 1) := by decide +kernel
theorem dX3_ask_45 : decode cX3_ask 45 = .ok (.istore 6, 2) := by decide +kernel
theorem dX3_ask_47 : decode cX3_ask 47 = .ok (.iload 6, 2) := by decide +kernel
theorem dX3_ask_49 : decode cX3_ask 49 = .ok (.bipush 40, 2) := by decide +kernel
theorem dX3_ask_51 : decode cX3_ask 51 = .ok (.if_icmp .gt 33, 3) := by decide +kernel
theorem dX3_ask_54 : decode cX3_ask 54 = .ok (.aload_n 0, 1) := by decide +kernel
theorem dX3_ask_55 : decode cX3_ask 55 = .ok (.iload 6, 2) := by decide +kernel
theorem dX3_ask_57 : decode cX3_ask 57 = .ok (.iload_n 3, 1) := by decide +kernel
theorem dX3_ask_58 : decode cX3_ask 58 = .ok (.invokevirtual 238, 3) := by decide +kernel
theorem dX3_ask_61 : decode cX3_ask 61 = .ok (.istore 7, 2) := by decide +kernel
theorem dX3_ask_63 : decode cX3_ask 63 = .ok (.iload 7, 2) := by decide +kernel
theorem dX3_ask_65 : decode cX3_ask 65 = .ok (.iload 5, 2) := by decide +kernel
theorem dX3_ask_67 : decode cX3_ask 67 = .ok (.if_icmp .ge 11, 3) := by decide +kernel
theorem dX3_ask_70 : decode cX3_ask 70 = .ok (.iload 7, 2) := by decide +kernel
theorem dX3_ask_72 : decode cX3_ask 72 = .ok (.istore 5, 2) := by decide +kernel
theorem dX3_ask_74 : decode cX3_ask 74 = .ok (.iload 6, 2) := by decide +kernel
theorem dX3_ask_76 : decode cX3_ask 76 = .ok (.istore 4, 2) := by decide +kernel
theorem dX3_ask_78 : decode cX3_ask 78 = .ok (.iinc 6 1, 3) := by decide +kernel
theorem dX3_ask_81 : decode cX3_ask 81 = .ok (.goto (-34), 3) := by decide +kernel
theorem dX3_ask_84 : decode cX3_ask 84 = .ok (.iload 4, 2) := by decide +kernel
theorem dX3_ask_86 : decode cX3_ask 86 = .ok (.bipush (-4), 2) := by decide +kernel
theorem dX3_ask_88 : decode cX3_ask 88 = .ok (.if_icmp .eq 7, 3) := by decide +kernel
theorem dX3_ask_91 : decode cX3_ask 91 = .ok (.iload_n 2, 1) := by decide +kernel
theorem dX3_ask_92 : decode cX3_ask 92 = .ok (.ifCond .ne 8, 3) := by decide +kernel
theorem dX3_ask_95 : decode cX3_ask 95 = .ok (.iload 4, 2) := by decide +kernel
theorem dX3_ask_97 : decode cX3_ask 97 = .ok (.goto 5, 3) := by decide +kernel
theorem dX3_ask_100 : decode cX3_ask 100 = .ok (.iload 5, 2) := by decide +kernel
theorem dX3_ask_102 : decode cX3_ask 102 = .ok (.ireturn, 1) := by decide +kernel
theorem dX3_drift_0 : decode cX3_drift 0 = .ok (.iload_n 2, 1) := by decide +kernel
theorem dX3_drift_1 : decode cX3_drift 1 = .ok (.iconst 1, 1) := by decide +kernel
theorem dX3_drift_2 : decode cX3_drift 2 = .ok (.sipush 200, 3) := by decide +kernel
theorem dX3_drift_5 : decode cX3_drift 5 = .ok (.invokestatic 67, 3) := by decide +kernel
theorem dX3_drift_8 : decode cX3_drift 8 = .ok (.ifCond .eq 12, 3) := by decide +kernel
theorem dX3_drift_11 : decode cX3_drift 11 = .ok (.iload_n 3, 1) := by decide +kernel
theorem dX3_drift_12 : decode cX3_drift 12 = .ok (.iconst 0, 1) := by decide +kernel
theorem dX3_drift_13 : decode cX3_drift 13 = .ok (.iconst 1, 1) := by decide +kernel
theorem dX3_drift_14 : decode cX3_drift 14 = .ok (.invokestatic 67, 3) := by decide +kernel
theorem dX3_drift_17 : decode cX3_drift 17 = .ok (.ifCond .ne 5, 3) := by decide +kernel
theorem dX3_drift_20 : decode cX3_drift 20 = .ok (.iconst (-1), 1) := by decide +kernel
theorem dX3_drift_21 : decode cX3_drift 21 = .ok (.ireturn, 1) := by decide +kernel
theorem dX3_drift_22 : decode cX3_drift 22 = .ok (.aload_n 0, 1) := by decide +kernel
theorem dX3_drift_23 : decode cX3_drift 23 = .ok (.getfield 10, 3) := by decide +kernel
theorem dX3_drift_26 : decode cX3_drift 26 = .ok (.getfield 89, 3) := by decide +kernel
theorem dX3_drift_29 : decode cX3_drift 29 = .ok (.ifCond .ne 6, 3) := by decide +kernel
theorem dX3_drift_32 : decode cX3_drift 32 = .ok (.bipush (-2), 2) := by decide +kernel
theorem dX3_drift_34 : decode cX3_drift 34 = .ok (.ireturn, 1) := by decide +kernel
theorem dX3_drift_35 : decode cX3_drift 35 = .ok (.aload_n 0, 1) := by decide +kernel
theorem dX3_drift_36 : decode cX3_drift 36 = .ok (.getfield 16, 3) := by decide +kernel
theorem dX3_drift_39 : decode cX3_drift 39 = .ok (.aload_n 0, 1) := by decide +kernel
theorem dX3_drift_40 : decode cX3_drift 40 = .ok (.getfield 10, 3) := by decide +kernel
theorem dX3_drift_43 : decode cX3_drift 43 = .ok (.invokevirtual 164, 3) := by decide +kernel
theorem dX3_drift_46 : decode cX3_drift 46 = .ok (.iload_n 1, 1) := by decide +kernel
theorem dX3_drift_47 : decode cX3_drift 47 = .ok (.istore 4, 2) := by decide +kernel
theorem dX3_drift_49 : decode cX3_drift 49 = .ok (.iconst 0, 1) := by decide +kernel
theorem dX3_drift_50 : decode cX3_drift 50 = .ok (.istore 5, 2) := by decide +kernel
theorem dX3_drift_52 : decode cX3_drift 52 = .ok (.iload 5, 2) := by decide +kernel
theorem dX3_drift_54 : decode cX3_drift 54 = .ok (.iload_n 2, 1) := by decide +kernel
theorem dX3_drift_55 : decode cX3_drift 55 = .ok (.if_icmp .ge 44, 3) := by decide +kernel
theorem dX3_drift_58 : decode cX3_drift 58 = .ok (.iload 4, 2) := by decide +kernel
theorem dX3_drift_60 : decode cX3_drift 60 = .ok (.ldc 241, 2) := by decide +kernel
theorem dX3_drift_62 : decode cX3_drift 62 = .ok (.imul, 1) := by decide +kernel
theorem dX3_drift_63 : decode cX3_drift 63 = .ok (.sipush 12345, 3) := by decide +kernel
theorem dX3_drift_66 : decode cX3_drift 66 = .ok (.iadd, 1) := by decide +kernel
theorem dX3_drift_67 : decode cX3_drift 67 = .ok (.istore 4, 2) := by decide +kernel
theorem dX3_drift_69 : decode cX3_drift 69 = .ok (.iload 4, 2) := by decide +kernel
theorem dX3_drift_71 : decode cX3_drift 71 = .ok (.bipush 16, 2) := by decide +kernel
theorem dX3_drift_73 : decode cX3_drift 73 = .ok (.iushr, 1) := by decide +kernel
theorem dX3_drift_74 : decode cX3_drift 74 = .ok (.sipush 32767, 3) := by decide +kernel
theorem dX3_drift_77 : decode cX3_drift 77 = .ok (.iand, 1) := by decide +kernel
theorem dX3_drift_78 : decode cX3_drift 78 = .ok (.istore 6, 2) := by decide +kernel
theorem dX3_drift_80 : decode cX3_drift 80 = .ok (.aload_n 0, 1) := by decide +kernel
theorem dX3_drift_81 : decode cX3_drift 81 = .ok (.getfield 16, 3) := by decide +kernel
theorem dX3_drift_84 : decode cX3_drift 84 = .ok (.iload 6, 2) := by decide +kernel
theorem dX3_drift_86 : decode cX3_drift 86 = .ok (.sipush 204, 3) := by decide +kernel
theorem dX3_drift_89 : decode cX3_drift 89 = .ok (.irem, 1) := by decide +kernel
theorem dX3_drift_90 : decode cX3_drift 90 = .ok (.invokevirtual 242, 3) := by decide +kernel
theorem dX3_drift_93 : decode cX3_drift 93 = .ok (.iinc 5 1, 3) := by decide +kernel
theorem dX3_drift_96 : decode cX3_drift 96 = .ok (.goto (-44), 3) := by decide +kernel
theorem dX3_drift_99 : decode cX3_drift 99 = .ok (.iload_n 3, 1) := by decide +kernel
theorem dX3_drift_100 : decode cX3_drift 100 = .ok (.ifCond .ne 13, 3) := by decide +kernel
theorem dX3_drift_103 : decode cX3_drift 103 = .ok (.aload_n 0, 1) := by decide +kernel
theorem dX3_drift_104 : decode cX3_drift 104 = .ok (.getfield 16, 3) := by decide +kernel
theorem dX3_drift_107 : decode cX3_drift 107 = .ok (.getfield 98, 3) := by decide +kernel
theorem dX3_drift_110 : decode cX3_drift 110 = .ok (.goto 10, 3) := by decide +kernel
theorem dX3_drift_113 : decode cX3_drift 113 = .ok (.aload_n 0, 1) := by decide +kernel
theorem dX3_drift_114 : decode cX3_drift 114 = .ok (.getfield 16, 3) := by decide +kernel
theorem dX3_drift_117 : decode cX3_drift 117 = .ok (.invokevirtual 178, 3) := by decide +kernel
theorem dX3_drift_120 : decode cX3_drift 120 = .ok (.ireturn, 1) := by decide +kernel
theorem dX3_keep_0 : decode cX3_keep 0 = .ok (.iload_n 1, 1) := by decide +kernel
theorem dX3_keep_1 : decode cX3_keep 1 = .ok (.iconst 0, 1) := by decide +kernel
theorem dX3_keep_2 : decode cX3_keep 2 = .ok (.iconst 1, 1) := by decide +kernel
theorem dX3_keep_3 : decode cX3_keep 3 = .ok (.invokestatic 67, 3) := by decide +kernel
theorem dX3_keep_6 : decode cX3_keep 6 = .ok (.ifCond .ne 5, 3) := by decide +kernel
theorem dX3_keep_9 : decode cX3_keep 9 = .ok (.iconst (-1), 1) := by decide +kernel
theorem dX3_keep_10 : decode cX3_keep 10 = .ok (.ireturn, 1) := by decide +kernel
theorem dX3_keep_11 : decode cX3_keep 11 = .ok (.aload_n 0, 1) := by decide +kernel
theorem dX3_keep_12 : decode cX3_keep 12 = .ok (.getfield 26, 3) := by decide +kernel
theorem dX3_keep_15 : decode cX3_keep 15 = .ok (.iload_n 1, 1) := by decide +kernel
theorem dX3_keep_16 : decode cX3_keep 16 = .ok (.baload, 1) := by decide +kernel
theorem dX3_keep_17 : decode cX3_keep 17 = .ok (.ifCond .eq 7, 3) := by decide +kernel
theorem dX3_keep_20 : decode cX3_keep 20 = .ok (.iconst 1, 1) := by decide +kernel
theorem dX3_keep_21 : decode cX3_keep 21 = .ok (.goto 4, 3) := by decide +kernel
theorem dX3_keep_24 : decode cX3_keep 24 = .ok (.iconst 0, 1) := by decide +kernel
theorem dX3_keep_25 : decode cX3_keep 25 = .ok (.istore_n 2, 1) := by decide +kernel
theorem dX3_keep_26 : decode cX3_keep 26 = .ok (.aload_n 0, 1) := by decide +kernel
theorem dX3_keep_27 : decode cX3_keep 27 = .ok (.getfield 22, 3) := by decide +kernel
theorem dX3_keep_30 : decode cX3_keep 30 = .ok (.iload_n 1, 1) := by decide +kernel
theorem dX3_keep_31 : decode cX3_keep 31 = .ok (.aaload, 1) := by decide +kernel
theorem dX3_keep_32 : decode cX3_keep 32 = .ok (.aload_n 0, 1) := by decide +kernel
theorem dX3_keep_33 : decode cX3_keep 33 = .ok (.getfield 10, 3) := by decide +kernel
theorem dX3_keep_36 : decode cX3_keep 36 = .ok (.invokevirtual 85, 3) := by decide +kernel
theorem dX3_keep_39 : decode cX3_keep 39 = .ok (.aload_n 0, 1) := by decide +kernel
theorem dX3_keep_40 : decode cX3_keep 40 = .ok (.getfield 26, 3) := by decide +kernel
theorem dX3_keep_43 : decode cX3_keep 43 = .ok (.iload_n 1, 1) := by decide +kernel
theorem dX3_keep_44 : decode cX3_keep 44 = .ok (.iconst 1, 1) := by decide +kernel
theorem dX3_keep_45 : decode cX3_keep 45 = .ok (.bastore, 1) := by decide +kernel
theorem dX3_keep_46 : decode cX3_keep 46 = .ok (.iload_n 2, 1) := by decide +kernel
theorem dX3_keep_47 : decode cX3_keep 47 = .ok (.ireturn, 1) := by decide +kernel
theorem dX3_back_0 : decode cX3_back 0 = .ok (.iload_n 1, 1) := by decide +kernel
theorem dX3_back_1 : decode cX3_back 1 = .ok (.iconst 0, 1) := by decide +kernel
theorem dX3_back_2 : decode cX3_back 2 = .ok (.iconst 1, 1) := by decide +kernel
theorem dX3_back_3 : decode cX3_back 3 = .ok (.invokestatic 67, 3) := by decide +kernel
theorem dX3_back_6 : decode cX3_back 6 = .ok (.ifCond .ne 5, 3) := by decide +kernel
theorem dX3_back_9 : decode cX3_back 9 = .ok (.iconst (-1), 1) := by decide +kernel
theorem dX3_back_10 : decode cX3_back 10 = .ok (.ireturn, 1) := by decide +kernel
theorem dX3_back_11 : decode cX3_back 11 = .ok (.aload_n 0, 1) := by decide +kernel
theorem dX3_back_12 : decode cX3_back 12 = .ok (.getfield 26, 3) := by decide +kernel
theorem dX3_back_15 : decode cX3_back 15 = .ok (.iload_n 1, 1) := by decide +kernel
theorem dX3_back_16 : decode cX3_back 16 = .ok (.baload, 1) := by decide +kernel
theorem dX3_back_17 : decode cX3_back 17 = .ok (.ifCond .ne 6, 3) := by decide +kernel
theorem dX3_back_20 : decode cX3_back 20 = .ok (.bipush (-2), 2) := by decide +kernel
theorem dX3_back_22 : decode cX3_back 22 = .ok (.ireturn, 1) := by decide +kernel
theorem dX3_back_23 : decode cX3_back 23 = .ok (.aload_n 0, 1) := by decide +kernel
theorem dX3_back_24 : decode cX3_back 24 = .ok (.getfield 10, 3) := by decide +kernel
theorem dX3_back_27 : decode cX3_back 27 = .ok (.aload_n 0, 1) := by decide +kernel
theorem dX3_back_28 : decode cX3_back 28 = .ok (.getfield 22, 3) := by decide +kernel
theorem dX3_back_31 : decode cX3_back 31 = .ok (.iload_n 1, 1) := by decide +kernel
theorem dX3_back_32 : decode cX3_back 32 = .ok (.aaload, 1) := by decide +kernel
theorem dX3_back_33 : decode cX3_back 33 = .ok (.invokevirtual 85, 3) := by decide +kernel
theorem dX3_back_36 : decode cX3_back 36 = .ok (.aload_n 0, 1) := by decide +kernel
theorem dX3_back_37 : decode cX3_back 37 = .ok (.getfield 10, 3) := by decide +kernel
theorem dX3_back_40 : decode cX3_back 40 = .ok (.getfield 95, 3) := by decide +kernel
theorem dX3_back_43 : decode cX3_back 43 = .ok (.ireturn, 1) := by decide +kernel
theorem dX3_sheet_0 : decode cX3_sheet 0 = .ok (.iload_n 1, 1) := by decide +kernel
theorem dX3_sheet_1 : decode cX3_sheet 1 = .ok (.iconst 0, 1) := by decide +kernel
theorem dX3_sheet_2 : decode cX3_sheet 2 = .ok (.iconst 3, 1) := by decide +kernel
theorem dX3_sheet_3 : decode cX3_sheet 3 = .ok (.invokestatic 67, 3) := by decide +kernel
theorem dX3_sheet_6 : decode cX3_sheet 6 = .ok (.ifCond .eq 18, 3) := by decide +kernel
theorem dX3_sheet_9 : decode cX3_sheet 9 = .ok (.iload_n 2, 1) := by decide +kernel
theorem dX3_sheet_10 : decode cX3_sheet 10 = .ok (.iconst 0, 1) := by decide +kernel
theorem dX3_sheet_11 : decode cX3_sheet 11 = .ok (.iconst 2, 1) := by decide +kernel
theorem dX3_sheet_12 : decode cX3_sheet 12 = .ok (.invokestatic 67, 3) := by decide +kernel
theorem dX3_sheet_15 : decode cX3_sheet 15 = .ok (.ifCond .eq 9, 3) := by decide +kernel
theorem dX3_sheet_18 : decode cX3_sheet 18 = .ok (.iload_n 3, 1) := by decide +kernel
theorem dX3_sheet_19 : decode cX3_sheet 19 = .ok (.bipush 40, 2) := by decide +kernel
theorem dX3_sheet_21 : decode cX3_sheet 21 = .ok (.if_icmp .le 5, 3) := by decide +kernel
theorem dX3_sheet_24 : decode cX3_sheet 24 = .ok (.iconst (-1), 1) := by decide +kernel
theorem dX3_sheet_25 : decode cX3_sheet 25 = .ok (.ireturn, 1) := by decide +kernel
theorem dX3_sheet_26 : decode cX3_sheet 26 = .ok (.iload_n 3, 1) := by decide +kernel
theorem dX3_sheet_27 : decode cX3_sheet 27 = .ok (.ifCond .ge 6, 3) := by decide +kernel
theorem dX3_sheet_30 : decode cX3_sheet 30 = .ok (.bipush (-14), 2) := by decide +kernel
theorem dX3_sheet_32 : decode cX3_sheet 32 = .ok (.ireturn, 1) := by decide +kernel
theorem dX3_sheet_33 : decode cX3_sheet 33 = .ok (.aload_n 0, 1) := by decide +kernel
theorem dX3_sheet_34 : decode cX3_sheet 34 = .ok (.getfield 39, 3) := by decide +kernel
theorem dX3_sheet_37 : decode cX3_sheet 37 = .ok (.iload_n 1, 1) := by decide +kernel
theorem dX3_sheet_38 : decode cX3_sheet 38 = .ok (.aaload, 1) := by decide +kernel
theorem dX3_sheet_39 : decode cX3_sheet 39 = .ok (.iload_n 2, 1) := by decide +kernel
theorem dX3_sheet_40 : decode cX3_sheet 40 = .ok (.iload_n 3, 1) := by decide +kernel
theorem dX3_sheet_41 : decode cX3_sheet 41 = .ok (.invokevirtual 245, 3) := by decide +kernel
theorem dX3_sheet_44 : decode cX3_sheet 44 = .ok (.iconst 1, 1) := by decide +kernel
theorem dX3_sheet_45 : decode cX3_sheet 45 = .ok (.ireturn, 1) := by decide +kernel
theorem dX3_lay_0 : decode cX3_lay 0 = .ok (.iload_n 1, 1) := by decide +kernel
theorem dX3_lay_1 : decode cX3_lay 1 = .ok (.iconst 0, 1) := by decide +kernel
theorem dX3_lay_2 : decode cX3_lay 2 = .ok (.iconst 3, 1) := by decide +kernel
theorem dX3_lay_3 : decode cX3_lay 3 = .ok (.invokestatic 67, 3) := by decide +kernel
theorem dX3_lay_6 : decode cX3_lay 6 = .ok (.ifCond .ne 5, 3) := by decide +kernel
theorem dX3_lay_9 : decode cX3_lay 9 = .ok (.iconst (-1), 1) := by decide +kernel
theorem dX3_lay_10 : decode cX3_lay 10 = .ok (.ireturn, 1) := by decide +kernel
theorem dX3_lay_11 : decode cX3_lay 11 = .ok (.aload_n 0, 1) := by decide +kernel
theorem dX3_lay_12 : decode cX3_lay 12 = .ok (.getfield 39, 3) := by decide +kernel
theorem dX3_lay_15 : decode cX3_lay 15 = .ok (.iload_n 1, 1) := by decide +kernel
theorem dX3_lay_16 : decode cX3_lay 16 = .ok (.aaload, 1) := by decide +kernel
theorem dX3_lay_17 : decode cX3_lay 17 = .ok (.astore 4, 2) := by decide +kernel
theorem dX3_lay_19 : decode cX3_lay 19 = .ok (.aload 4, 2) := by decide +kernel
theorem dX3_lay_21 : decode cX3_lay 21 = .ok (.aload 4, 2) := by decide +kernel
theorem dX3_lay_23 : decode cX3_lay 23 = .ok (.getfield 248, 3) := by decide +kernel
theorem dX3_lay_26 : decode cX3_lay 26 = .ok (.iload_n 2, 1) := by decide +kernel
theorem dX3_lay_27 : decode cX3_lay 27 = .ok (.invokevirtual 251, 3) := by decide +kernel
end
section
theorem dX3_lay_30 : decode cX3_lay 30 = .ok (.istore 5, 2) := by decide +kernel
theorem dX3_lay_32 : decode cX3_lay 32 = .ok (.iload 5, 2) := by decide +kernel
theorem dX3_lay_34 : decode cX3_lay 34 = .ok (.ifCond .eq 9, 3) := by decide +kernel
theorem dX3_lay_37 : decode cX3_lay 37 = .ok (.bipush (-10), 2) := by decide +kernel
theorem dX3_lay_39 : decode cX3_lay 39 = .ok (.iload 5, 2) := by decide +kernel
theorem dX3_lay_41 : decode cX3_lay 41 = .ok (.isub, 1) := by decide +kernel
theorem dX3_lay_42 : decode cX3_lay 42 = .ok (.ireturn, 1) := by decide +kernel
theorem dX3_lay_43 : decode cX3_lay 43 = .ok (.aload 4, 2) := by decide +kernel
theorem dX3_lay_45 : decode cX3_lay 45 = .ok (.iload_n 2, 1) := by decide +kernel
theorem dX3_lay_46 : decode cX3_lay 46 = .ok (.iload_n 3, 1) := by decide +kernel
theorem dX3_lay_47 : decode cX3_lay 47 = .ok (.invokevirtual 254, 3) := by decide +kernel
theorem dX3_lay_50 : decode cX3_lay 50 = .ok (.iconst 1, 1) := by decide +kernel
theorem dX3_lay_51 : decode cX3_lay 51 = .ok (.ireturn, 1) := by decide +kernel
theorem dX3_read_0 : decode cX3_read 0 = .ok (.iload_n 1, 1) := by decide +kernel
theorem dX3_read_1 : decode cX3_read 1 = .ok (.iconst 0, 1) := by decide +kernel
theorem dX3_read_2 : decode cX3_read 2 = .ok (.iconst 3, 1) := by decide +kernel
theorem dX3_read_3 : decode cX3_read 3 = .ok (.invokestatic 67, 3) := by decide +kernel
theorem dX3_read_6 : decode cX3_read 6 = .ok (.ifCond .eq 23, 3) := by decide +kernel
theorem dX3_read_9 : decode cX3_read 9 = .ok (.iload_n 2, 1) := by decide +kernel
theorem dX3_read_10 : decode cX3_read 10 = .ok (.iconst 0, 1) := by decide +kernel
theorem dX3_read_11 : decode cX3_read 11 = .ok (.iconst 2, 1) := by decide +kernel
theorem dX3_read_12 : decode cX3_read 12 = .ok (.invokestatic 67, 3) := by decide +kernel
theorem dX3_read_15 : decode cX3_read 15 = .ok (.ifCond .eq 14, 3) := by decide +kernel
theorem dX3_read_18 : decode cX3_read 18 = .ok (.iload 4, 2) := by decide +kernel
theorem dX3_read_20 : decode cX3_read 20 = .ok (.iconst 0, 1) := by decide +kernel
theorem dX3_read_21 : decode cX3_read 21 = .ok (.bipush 40, 2) := by decide +kernel
theorem dX3_read_23 : decode cX3_read 23 = .ok (.invokestatic 67, 3) := by decide +kernel
theorem dX3_read_26 : decode cX3_read 26 = .ok (.ifCond .ne 5, 3) := by decide +kernel
theorem dX3_read_29 : decode cX3_read 29 = .ok (.iconst (-1), 1) := by decide +kernel
theorem dX3_read_30 : decode cX3_read 30 = .ok (.ireturn, 1) := by decide +kernel
theorem dX3_read_31 : decode cX3_read 31 = .ok (.aload_n 0, 1) := by decide +kernel
theorem dX3_read_32 : decode cX3_read 32 = .ok (.getfield 39, 3) := by decide +kernel
theorem dX3_read_35 : decode cX3_read 35 = .ok (.iload_n 1, 1) := by decide +kernel
theorem dX3_read_36 : decode cX3_read 36 = .ok (.aaload, 1) := by decide +kernel
theorem dX3_read_37 : decode cX3_read 37 = .ok (.astore 5, 2) := by decide +kernel
theorem dX3_read_39 : decode cX3_read 39 = .ok (.aload_n 0, 1) := by decide +kernel
theorem dX3_read_40 : decode cX3_read 40 = .ok (.getfield 10, 3) := by decide +kernel
theorem dX3_read_43 : decode cX3_read 43 = .ok (.getfield 92, 3) := by decide +kernel
theorem dX3_read_46 : decode cX3_read 46 = .ok (.istore 6, 2) := by decide +kernel
theorem dX3_read_48 : decode cX3_read 48 = .ok (.iconst 0, 1) := by decide +kernel
theorem dX3_read_49 : decode cX3_read 49 = .ok (.istore 7, 2) := by decide +kernel
theorem dX3_read_51 : decode cX3_read 51 = .ok (.iconst 0, 1) := by decide +kernel
theorem dX3_read_52 : decode cX3_read 52 = .ok (.istore 8, 2) := by decide +kernel
theorem dX3_read_54 : decode cX3_read 54 = .ok (.iconst 0, 1) := by decide +kernel
theorem dX3_read_55 : decode cX3_read 55 = .ok (.istore 9, 2) := by decide +kernel
theorem dX3_read_57 : decode cX3_read 57 = .ok (.iload 9, 2) := by decide +kernel
theorem dX3_read_59 : decode cX3_read 59 = .ok (.iload 4, 2) := by decide +kernel
theorem dX3_read_61 : decode cX3_read 61 = .ok (.if_icmp .ge 66, 3) := by decide +kernel
theorem dX3_read_64 : decode cX3_read 64 = .ok (.iload 7, 2) := by decide +kernel
theorem dX3_read_66 : decode cX3_read 66 = .ok (.ifCond .ne 61, 3) := by decide +kernel
theorem dX3_read_69 : decode cX3_read 69 = .ok (.aload 5, 2) := by decide +kernel
theorem dX3_read_71 : decode cX3_read 71 = .ok (.iload_n 2, 1) := by decide +kernel
theorem dX3_read_72 : decode cX3_read 72 = .ok (.iload_n 3, 1) := by decide +kernel
theorem dX3_read_73 : decode cX3_read 73 = .ok (.iload 9, 2) := by decide +kernel
theorem dX3_read_75 : decode cX3_read 75 = .ok (.iadd, 1) := by decide +kernel
theorem dX3_read_76 : decode cX3_read 76 = .ok (.invokevirtual 251, 3) := by decide +kernel
theorem dX3_read_79 : decode cX3_read 79 = .ok (.istore 7, 2) := by decide +kernel
theorem dX3_read_81 : decode cX3_read 81 = .ok (.iload 7, 2) := by decide +kernel
theorem dX3_read_83 : decode cX3_read 83 = .ok (.ifCond .ne 38, 3) := by decide +kernel
theorem dX3_read_86 : decode cX3_read 86 = .ok (.aload_n 0, 1) := by decide +kernel
theorem dX3_read_87 : decode cX3_read 87 = .ok (.aload 5, 2) := by decide +kernel
theorem dX3_read_89 : decode cX3_read 89 = .ok (.getfield 257, 3) := by decide +kernel
theorem dX3_read_92 : decode cX3_read 92 = .ok (.iload_n 3, 1) := by decide +kernel
theorem dX3_read_93 : decode cX3_read 93 = .ok (.iload 9, 2) := by decide +kernel
theorem dX3_read_95 : decode cX3_read 95 = .ok (.iadd, 1) := by decide +kernel
theorem dX3_read_96 : decode cX3_read 96 = .ok (.iaload, 1) := by decide +kernel
theorem dX3_read_97 : decode cX3_read 97 = .ok (.invokevirtual 154, 3) := by decide +kernel
theorem dX3_read_100 : decode cX3_read 100 = .ok (.ifCond .ge 18, 3) := by decide +kernel
theorem dX3_read_103 : decode cX3_read 103 = .ok (.aload_n 0, 1) := by decide +kernel
theorem dX3_read_104 : decode cX3_read 104 = .ok (.getfield 10, 3) := by decide +kernel
theorem dX3_read_107 : decode cX3_read 107 = .ok (.iload 6, 2) := by decide +kernel
theorem dX3_read_109 : decode cX3_read 109 = .ok (.putfield 92, 3) := by decide +kernel
theorem dX3_read_112 : decode cX3_read 112 = .ok (.bipush (-20), 2) := by decide +kernel
theorem dX3_read_114 : decode cX3_read 114 = .ok (.iload 9, 2) := by decide +kernel
theorem dX3_read_116 : decode cX3_read 116 = .ok (.isub, 1) := by decide +kernel
theorem dX3_read_117 : decode cX3_read 117 = .ok (.ireturn, 1) := by decide +kernel
theorem dX3_read_118 : decode cX3_read 118 = .ok (.iinc 8 1, 3) := by decide +kernel
theorem dX3_read_121 : decode cX3_read 121 = .ok (.iinc 9 1, 3) := by decide +kernel
theorem dX3_read_124 : decode cX3_read 124 = .ok (.goto (-67), 3) := by decide +kernel
theorem dX3_read_127 : decode cX3_read 127 = .ok (.aload_n 0, 1) := by decide +kernel
theorem dX3_read_128 : decode cX3_read 128 = .ok (.iload 7, 2) := by decide +kernel
theorem dX3_read_130 : decode cX3_read 130 = .ok (.putfield 60, 3) := by decide +kernel
theorem dX3_read_133 : decode cX3_read 133 = .ok (.iload 8, 2) := by decide +kernel
theorem dX3_read_135 : decode cX3_read 135 = .ok (.ireturn, 1) := by decide +kernel
theorem dX3_torn_0 : decode cX3_torn 0 = .ok (.aload_n 0, 1) := by decide +kernel
theorem dX3_torn_1 : decode cX3_torn 1 = .ok (.getfield 60, 3) := by decide +kernel
theorem dX3_torn_4 : decode cX3_torn 4 = .ok (.ireturn, 1) := by decide +kernel
theorem dX3_count_0 : decode cX3_count 0 = .ok (.iload_n 1, 1) := by decide +kernel
theorem dX3_count_1 : decode cX3_count 1 = .ok (.tableswitch 139 0 5 #[39, 44, 74, 82, 109, 124], 39) := by decide +kernel
theorem dX3_count_40 : decode cX3_count 40 = .ok (.aload_n 0, 1) := by decide +kernel
theorem dX3_count_41 : decode cX3_count 41 = .ok (.getfield 53, 3) := by decide +kernel
theorem dX3_count_44 : decode cX3_count 44 = .ok (.ireturn, 1) := by decide +kernel
theorem dX3_count_45 : decode cX3_count 45 = .ok (.aload_n 0, 1) := by decide +kernel
theorem dX3_count_46 : decode cX3_count 46 = .ok (.getfield 26, 3) := by decide +kernel
theorem dX3_count_49 : decode cX3_count 49 = .ok (.iconst 0, 1) := by decide +kernel
theorem dX3_count_50 : decode cX3_count 50 = .ok (.baload, 1) := by decide +kernel
theorem dX3_count_51 : decode cX3_count 51 = .ok (.ifCond .eq 7, 3) := by decide +kernel
theorem dX3_count_54 : decode cX3_count 54 = .ok (.iconst 1, 1) := by decide +kernel
theorem dX3_count_55 : decode cX3_count 55 = .ok (.goto 4, 3) := by decide +kernel
theorem dX3_count_58 : decode cX3_count 58 = .ok (.iconst 0, 1) := by decide +kernel
theorem dX3_count_59 : decode cX3_count 59 = .ok (.aload_n 0, 1) := by decide +kernel
theorem dX3_count_60 : decode cX3_count 60 = .ok (.getfield 26, 3) := by decide +kernel
theorem dX3_count_63 : decode cX3_count 63 = .ok (.iconst 1, 1) := by decide +kernel
theorem dX3_count_64 : decode cX3_count 64 = .ok (.baload, 1) := by decide +kernel
theorem dX3_count_65 : decode cX3_count 65 = .ok (.ifCond .eq 7, 3) := by decide +kernel
theorem dX3_count_68 : decode cX3_count 68 = .ok (.iconst 1, 1) := by decide +kernel
theorem dX3_count_69 : decode cX3_count 69 = .ok (.goto 4, 3) := by decide +kernel
theorem dX3_count_72 : decode cX3_count 72 = .ok (.iconst 0, 1) := by decide +kernel
theorem dX3_count_73 : decode cX3_count 73 = .ok (.iadd, 1) := by decide +kernel
theorem dX3_count_74 : decode cX3_count 74 = .ok (.ireturn, 1) := by decide +kernel
theorem dX3_count_75 : decode cX3_count 75 = .ok (.aload_n 0, 1) := by decide +kernel
theorem dX3_count_76 : decode cX3_count 76 = .ok (.getfield 33, 3) := by decide +kernel
theorem dX3_count_79 : decode cX3_count 79 = .ok (.getfield 75, 3) := by decide +kernel
theorem dX3_count_82 : decode cX3_count 82 = .ok (.ireturn, 1) := by decide +kernel
theorem dX3_count_83 : decode cX3_count 83 = .ok (.aload_n 0, 1) := by decide +kernel
theorem dX3_count_84 : decode cX3_count 84 = .ok (.getfield 39, 3) := by decide +kernel
theorem dX3_count_87 : decode cX3_count 87 = .ok (.iconst 0, 1) := by decide +kernel
theorem dX3_count_88 : decode cX3_count 88 = .ok (.aaload, 1) := by decide +kernel
theorem dX3_count_89 : decode cX3_count 89 = .ok (.getfield 260, 3) := by decide +kernel
theorem dX3_count_92 : decode cX3_count 92 = .ok (.ifCond .eq 15, 3) := by decide +kernel
theorem dX3_count_95 : decode cX3_count 95 = .ok (.aload_n 0, 1) := by decide +kernel
theorem dX3_count_96 : decode cX3_count 96 = .ok (.getfield 39, 3) := by decide +kernel
theorem dX3_count_99 : decode cX3_count 99 = .ok (.iconst 0, 1) := by decide +kernel
theorem dX3_count_100 : decode cX3_count 100 = .ok (.aaload, 1) := by decide +kernel
theorem dX3_count_101 : decode cX3_count 101 = .ok (.getfield 264, 3) := by decide +kernel
theorem dX3_count_104 : decode cX3_count 104 = .ok (.goto 5, 3) := by decide +kernel
theorem dX3_count_107 : decode cX3_count 107 = .ok (.bipush (-4), 2) := by decide +kernel
theorem dX3_count_109 : decode cX3_count 109 = .ok (.ireturn, 1) := by decide +kernel
theorem dX3_count_110 : decode cX3_count 110 = .ok (.aload_n 0, 1) := by decide +kernel
theorem dX3_count_111 : decode cX3_count 111 = .ok (.getfield 10, 3) := by decide +kernel
theorem dX3_count_114 : decode cX3_count 114 = .ok (.aload_n 0, 1) := by decide +kernel
theorem dX3_count_115 : decode cX3_count 115 = .ok (.getfield 10, 3) := by decide +kernel
theorem dX3_count_118 : decode cX3_count 118 = .ok (.getfield 124, 3) := by decide +kernel
theorem dX3_count_121 : decode cX3_count 121 = .ok (.invokevirtual 267, 3) := by decide +kernel
theorem dX3_count_124 : decode cX3_count 124 = .ok (.ireturn, 1) := by decide +kernel
theorem dX3_count_125 : decode cX3_count 125 = .ok (.aload_n 0, 1) := by decide +kernel
theorem dX3_count_126 : decode cX3_count 126 = .ok (.getfield 10, 3) := by decide +kernel
theorem dX3_count_129 : decode cX3_count 129 = .ok (.aload_n 0, 1) := by decide +kernel
theorem dX3_count_130 : decode cX3_count 130 = .ok (.getfield 10, 3) := by decide +kernel
theorem dX3_count_133 : decode cX3_count 133 = .ok (.getfield 127, 3) := by decide +kernel
theorem dX3_count_136 : decode cX3_count 136 = .ok (.invokevirtual 267, 3) := by decide +kernel
theorem dX3_count_139 : decode cX3_count 139 = .ok (.ireturn, 1) := by decide +kernel
theorem dX3_count_140 : decode cX3_count 140 = .ok (.iconst (-1), 1) := by decide +kernel
theorem dX3_count_141 : decode cX3_count 141 = .ok (.ireturn, 1) := by decide +kernel
theorem dX3_within_0 : decode cX3_within 0 = .ok (.iload_n 0, 1) := by decide +kernel
theorem dX3_within_1 : decode cX3_within 1 = .ok (.iload_n 1, 1) := by decide +kernel
theorem dX3_within_2 : decode cX3_within 2 = .ok (.if_icmp .lt 12, 3) := by decide +kernel
theorem dX3_within_5 : decode cX3_within 5 = .ok (.iload_n 0, 1) := by decide +kernel
theorem dX3_within_6 : decode cX3_within 6 = .ok (.iload_n 2, 1) := by decide +kernel
theorem dX3_within_7 : decode cX3_within 7 = .ok (.if_icmp .gt 7, 3) := by decide +kernel
theorem dX3_within_10 : decode cX3_within 10 = .ok (.iconst 1, 1) := by decide +kernel
theorem dX3_within_11 : decode cX3_within 11 = .ok (.goto 4, 3) := by decide +kernel
theorem dX3_within_14 : decode cX3_within 14 = .ok (.iconst 0, 1) := by decide +kernel
theorem dX3_within_15 : decode cX3_within 15 = .ok (.ireturn, 1) := by decide +kernel
theorem dX3_quotient_0 : decode cX3_quotient 0 = .ok (.iload_n 1, 1) := by decide +kernel
theorem dX3_quotient_1 : decode cX3_quotient 1 = .ok (.ifCond .le 9, 3) := by decide +kernel
theorem dX3_quotient_4 : decode cX3_quotient 4 = .ok (.iload_n 0, 1) := by decide +kernel
theorem dX3_quotient_5 : decode cX3_quotient 5 = .ok (.iload_n 1, 1) := by decide +kernel
theorem dX3_quotient_6 : decode cX3_quotient 6 = .ok (.idiv, 1) := by decide +kernel
theorem dX3_quotient_7 : decode cX3_quotient 7 = .ok (.goto 4, 3) := by decide +kernel
theorem dX3_quotient_10 : decode cX3_quotient 10 = .ok (.iconst 0, 1) := by decide +kernel
theorem dX3_quotient_11 : decode cX3_quotient 11 = .ok (.ireturn, 1) := by decide +kernel
theorem dX3_replace_0 : decode cX3_replace 0 = .ok (.aload_n 0, 1) := by decide +kernel
theorem dX3_replace_1 : decode cX3_replace 1 = .ok (.iload_n 1, 1) := by decide +kernel
theorem dX3_replace_2 : decode cX3_replace 2 = .ok (.iaload, 1) := by decide +kernel
theorem dX3_replace_3 : decode cX3_replace 3 = .ok (.istore_n 3, 1) := by decide +kernel
theorem dX3_replace_4 : decode cX3_replace 4 = .ok (.aload_n 0, 1) := by decide +kernel
theorem dX3_replace_5 : decode cX3_replace 5 = .ok (.iload_n 1, 1) := by decide +kernel
theorem dX3_replace_6 : decode cX3_replace 6 = .ok (.iload_n 2, 1) := by decide +kernel
theorem dX3_replace_7 : decode cX3_replace 7 = .ok (.iastore, 1) := by decide +kernel
theorem dX3_replace_8 : decode cX3_replace 8 = .ok (.iload_n 3, 1) := by decide +kernel
theorem dX3_replace_9 : decode cX3_replace 9 = .ok (.ireturn, 1) := by decide +kernel
theorem dX3_addAct_0 : decode cX3_addAct 0 = .ok (.iload_n 1, 1) := by decide +kernel
theorem dX3_addAct_1 : decode cX3_addAct 1 = .ok (.iconst 0, 1) := by decide +kernel
theorem dX3_addAct_2 : decode cX3_addAct 2 = .ok (.sipush 203, 3) := by decide +kernel
theorem dX3_addAct_5 : decode cX3_addAct 5 = .ok (.invokestatic 67, 3) := by decide +kernel
theorem dX3_addAct_8 : decode cX3_addAct 8 = .ok (.ifCond .eq 14, 3) := by decide +kernel
theorem dX3_addAct_11 : decode cX3_addAct 11 = .ok (.aload_n 0, 1) := by decide +kernel
theorem dX3_addAct_12 : decode cX3_addAct 12 = .ok (.getfield 10, 3) := by decide +kernel
theorem dX3_addAct_15 : decode cX3_addAct 15 = .ok (.iload_n 1, 1) := by decide +kernel
theorem dX3_addAct_16 : decode cX3_addAct 16 = .ok (.invokevirtual 271, 3) := by decide +kernel
theorem dX3_addAct_19 : decode cX3_addAct 19 = .ok (.goto 4, 3) := by decide +kernel
theorem dX3_addAct_22 : decode cX3_addAct 22 = .ok (.iconst (-1), 1) := by decide +kernel
theorem dX3_addAct_23 : decode cX3_addAct 23 = .ok (.ireturn, 1) := by decide +kernel
theorem dX3_asksBest_0 : decode cX3_asksBest 0 = .ok (.iload_n 0, 1) := by decide +kernel
theorem dX3_asksBest_1 : decode cX3_asksBest 1 = .ok (.iconst 0, 1) := by decide +kernel
theorem dX3_asksBest_2 : decode cX3_asksBest 2 = .ok (.sipush 200, 3) := by decide +kernel
theorem dX3_asksBest_5 : decode cX3_asksBest 5 = .ok (.invokestatic 67, 3) := by decide +kernel
theorem dX3_asksBest_8 : decode cX3_asksBest 8 = .ok (.ifCond .eq 16, 3) := by decide +kernel
theorem dX3_asksBest_11 : decode cX3_asksBest 11 = .ok (.iload_n 1, 1) := by decide +kernel
theorem dX3_asksBest_12 : decode cX3_asksBest 12 = .ok (.iconst 0, 1) := by decide +kernel
theorem dX3_asksBest_13 : decode cX3_asksBest 13 = .ok (.iconst 1, 1) := by decide +kernel
theorem dX3_asksBest_14 : decode cX3_asksBest 14 = .ok (.invokestatic 67, 3) := by decide +kernel
theorem dX3_asksBest_17 : decode cX3_asksBest 17 = .ok (.ifCond .eq 7, 3) := by decide +kernel
theorem dX3_asksBest_20 : decode cX3_asksBest 20 = .ok (.iconst 1, 1) := by decide +kernel
theorem dX3_asksBest_21 : decode cX3_asksBest 21 = .ok (.goto 4, 3) := by decide +kernel
theorem dX3_asksBest_24 : decode cX3_asksBest 24 = .ok (.iconst 0, 1) := by decide +kernel
theorem dX3_asksBest_25 : decode cX3_asksBest 25 = .ok (.ireturn, 1) := by decide +kernel
theorem dX3_doneAsItIs_0 : decode cX3_doneAsItIs 0 = .ok (.aload_n 0, 1) := by decide +kernel
theorem dX3_doneAsItIs_1 : decode cX3_doneAsItIs 1 = .ok (.getfield 16, 3) := by decide +kernel
theorem dX3_doneAsItIs_4 : decode cX3_doneAsItIs 4 = .ok (.aload_n 0, 1) := by decide +kernel
theorem dX3_doneAsItIs_5 : decode cX3_doneAsItIs 5 = .ok (.getfield 10, 3) := by decide +kernel
theorem dX3_doneAsItIs_8 : decode cX3_doneAsItIs 8 = .ok (.invokevirtual 164, 3) := by decide +kernel
theorem dX3_doneAsItIs_11 : decode cX3_doneAsItIs 11 = .ok (.aload_n 0, 1) := by decide +kernel
theorem dX3_doneAsItIs_12 : decode cX3_doneAsItIs 12 = .ok (.getfield 16, 3) := by decide +kernel
theorem dX3_doneAsItIs_15 : decode cX3_doneAsItIs 15 = .ok (.iload_n 1, 1) := by decide +kernel
theorem dX3_doneAsItIs_16 : decode cX3_doneAsItIs 16 = .ok (.invokevirtual 161, 3) := by decide +kernel
theorem dX3_doneAsItIs_19 : decode cX3_doneAsItIs 19 = .ok (.aload_n 0, 1) := by decide +kernel
theorem dX3_doneAsItIs_20 : decode cX3_doneAsItIs 20 = .ok (.getfield 16, 3) := by decide +kernel
theorem dX3_doneAsItIs_23 : decode cX3_doneAsItIs 23 = .ok (.getfield 98, 3) := by decide +kernel
theorem dX3_doneAsItIs_26 : decode cX3_doneAsItIs 26 = .ok (.ireturn, 1) := by decide +kernel
theorem dX3_doneSwapped_0 : decode cX3_doneSwapped 0 = .ok (.aload_n 0, 1) := by decide +kernel
theorem dX3_doneSwapped_1 : decode cX3_doneSwapped 1 = .ok (.getfield 16, 3) := by decide +kernel
theorem dX3_doneSwapped_4 : decode cX3_doneSwapped 4 = .ok (.aload_n 0, 1) := by decide +kernel
theorem dX3_doneSwapped_5 : decode cX3_doneSwapped 5 = .ok (.getfield 10, 3) := by decide +kernel
theorem dX3_doneSwapped_8 : decode cX3_doneSwapped 8 = .ok (.invokevirtual 164, 3) := by decide +kernel
theorem dX3_doneSwapped_11 : decode cX3_doneSwapped 11 = .ok (.aload_n 0, 1) := by decide +kernel
theorem dX3_doneSwapped_12 : decode cX3_doneSwapped 12 = .ok (.getfield 16, 3) := by decide +kernel
theorem dX3_doneSwapped_15 : decode cX3_doneSwapped 15 = .ok (.getfield 143, 3) := by decide +kernel
theorem dX3_doneSwapped_18 : decode cX3_doneSwapped 18 = .ok (.iload_n 1, 1) := by decide +kernel
theorem dX3_doneSwapped_19 : decode cX3_doneSwapped 19 = .ok (.aload_n 0, 1) := by decide +kernel
theorem dX3_doneSwapped_20 : decode cX3_doneSwapped 20 = .ok (.getfield 10, 3) := by decide +kernel
theorem dX3_doneSwapped_23 : decode cX3_doneSwapped 23 = .ok (.getfield 143, 3) := by decide +kernel
theorem dX3_doneSwapped_26 : decode cX3_doneSwapped 26 = .ok (.iload_n 2, 1) := by decide +kernel
theorem dX3_doneSwapped_27 : decode cX3_doneSwapped 27 = .ok (.iaload, 1) := by decide +kernel
theorem dX3_doneSwapped_28 : decode cX3_doneSwapped 28 = .ok (.iastore, 1) := by decide +kernel
theorem dX3_doneSwapped_29 : decode cX3_doneSwapped 29 = .ok (.aload_n 0, 1) := by decide +kernel
theorem dX3_doneSwapped_30 : decode cX3_doneSwapped 30 = .ok (.getfield 16, 3) := by decide +kernel
theorem dX3_doneSwapped_33 : decode cX3_doneSwapped 33 = .ok (.getfield 143, 3) := by decide +kernel
theorem dX3_doneSwapped_36 : decode cX3_doneSwapped 36 = .ok (.iload_n 2, 1) := by decide +kernel
theorem dX3_doneSwapped_37 : decode cX3_doneSwapped 37 = .ok (.aload_n 0, 1) := by decide +kernel
theorem dX3_doneSwapped_38 : decode cX3_doneSwapped 38 = .ok (.getfield 10, 3) := by decide +kernel
theorem dX3_doneSwapped_41 : decode cX3_doneSwapped 41 = .ok (.getfield 143, 3) := by decide +kernel
theorem dX3_doneSwapped_44 : decode cX3_doneSwapped 44 = .ok (.iload_n 1, 1) := by decide +kernel
theorem dX3_doneSwapped_45 : decode cX3_doneSwapped 45 = .ok (.iaload, 1) := by decide +kernel
theorem dX3_doneSwapped_46 : decode cX3_doneSwapped 46 = .ok (.iastore, 1) := by decide +kernel
theorem dX3_doneSwapped_47 : decode cX3_doneSwapped 47 = .ok (.aload_n 0, 1) := by decide +kernel
theorem dX3_doneSwapped_48 : decode cX3_doneSwapped 48 = .ok (.getfield 16, 3) := by decide +kernel
theorem dX3_doneSwapped_51 : decode cX3_doneSwapped 51 = .ok (.iload_n 3, 1) := by decide +kernel
theorem dX3_doneSwapped_52 : decode cX3_doneSwapped 52 = .ok (.invokevirtual 161, 3) := by decide +kernel
theorem dX3_doneSwapped_55 : decode cX3_doneSwapped 55 = .ok (.aload_n 0, 1) := by decide +kernel
theorem dX3_doneSwapped_56 : decode cX3_doneSwapped 56 = .ok (.getfield 16, 3) := by decide +kernel
theorem dX3_doneSwapped_59 : decode cX3_doneSwapped 59 = .ok (.getfield 98, 3) := by decide +kernel
theorem dX3_doneSwapped_62 : decode cX3_doneSwapped 62 = .ok (.ireturn, 1) := by decide +kernel
theorem dX3_asksOdds_0 : decode cX3_asksOdds 0 = .ok (.iload_n 0, 1) := by decide +kernel
theorem dX3_asksOdds_1 : decode cX3_asksOdds 1 = .ok (.iconst 0, 1) := by decide +kernel
theorem dX3_asksOdds_2 : decode cX3_asksOdds 2 = .ok (.bipush 10, 2) := by decide +kernel
theorem dX3_asksOdds_4 : decode cX3_asksOdds 4 = .ok (.invokestatic 67, 3) := by decide +kernel
theorem dX3_asksOdds_7 : decode cX3_asksOdds 7 = .ok (.ifCond .eq 26, 3) := by decide +kernel
theorem dX3_asksOdds_10 : decode cX3_asksOdds 10 = .ok (.iload_n 1, 1) := by decide +kernel
theorem dX3_asksOdds_11 : decode cX3_asksOdds 11 = .ok (.iconst 0, 1) := by decide +kernel
theorem dX3_asksOdds_12 : decode cX3_asksOdds 12 = .ok (.bipush 8, 2) := by decide +kernel
theorem dX3_asksOdds_14 : decode cX3_asksOdds 14 = .ok (.invokestatic 67, 3) := by decide +kernel
theorem dX3_asksOdds_17 : decode cX3_asksOdds 17 = .ok (.ifCond .eq 16, 3) := by decide +kernel
theorem dX3_asksOdds_20 : decode cX3_asksOdds 20 = .ok (.iload_n 2, 1) := by decide +kernel
theorem dX3_asksOdds_21 : decode cX3_asksOdds 21 = .ok (.iconst 0, 1) := by decide +kernel
theorem dX3_asksOdds_22 : decode cX3_asksOdds 22 = .ok (.iconst 1, 1) := by decide +kernel
theorem dX3_asksOdds_23 : decode cX3_asksOdds 23 = .ok (.invokestatic 67, 3) := by decide +kernel
theorem dX3_asksOdds_26 : decode cX3_asksOdds 26 = .ok (.ifCond .eq 7, 3) := by decide +kernel
theorem dX3_asksOdds_29 : decode cX3_asksOdds 29 = .ok (.iconst 1, 1) := by decide +kernel
theorem dX3_asksOdds_30 : decode cX3_asksOdds 30 = .ok (.goto 4, 3) := by decide +kernel
theorem dX3_asksOdds_33 : decode cX3_asksOdds 33 = .ok (.iconst 0, 1) := by decide +kernel
theorem dX3_asksOdds_34 : decode cX3_asksOdds 34 = .ok (.ireturn, 1) := by decide +kernel
theorem dX3_runFailing_0 : decode cX3_runFailing 0 = .ok (.aload_n 0, 1) := by decide +kernel
theorem dX3_runFailing_1 : decode cX3_runFailing 1 = .ok (.getfield 16, 3) := by decide +kernel
theorem dX3_runFailing_4 : decode cX3_runFailing 4 = .ok (.aload_n 0, 1) := by decide +kernel
theorem dX3_runFailing_5 : decode cX3_runFailing 5 = .ok (.getfield 10, 3) := by decide +kernel
theorem dX3_runFailing_8 : decode cX3_runFailing 8 = .ok (.invokevirtual 164, 3) := by decide +kernel
theorem dX3_runFailing_11 : decode cX3_runFailing 11 = .ok (.iconst 0, 1) := by decide +kernel
theorem dX3_runFailing_12 : decode cX3_runFailing 12 = .ok (.istore_n 3, 1) := by decide +kernel
theorem dX3_runFailing_13 : decode cX3_runFailing 13 = .ok (.iload_n 3, 1) := by decide +kernel
theorem dX3_runFailing_14 : decode cX3_runFailing 14 = .ok (.iload_n 2, 1) := by decide +kernel
theorem dX3_runFailing_15 : decode cX3_runFailing 15 = .ok (.if_icmp .ge 59, 3) := by decide +kernel
theorem dX3_runFailing_18 : decode cX3_runFailing 18 = .ok (.aload_n 0, 1) := by decide +kernel
theorem dX3_runFailing_19 : decode cX3_runFailing 19 = .ok (.getfield 16, 3) := by decide +kernel
theorem dX3_runFailing_22 : decode cX3_runFailing 22 = .ok (.invokevirtual 114, 3) := by decide +kernel
theorem dX3_runFailing_25 : decode cX3_runFailing 25 = .ok (.istore 4, 2) := by decide +kernel
theorem dX3_runFailing_27 : decode cX3_runFailing 27 = .ok (.iload_n 1, 1) := by decide +kernel
theorem dX3_runFailing_28 : decode cX3_runFailing 28 = .ok (.iload_n 3, 1) := by decide +kernel
theorem dX3_runFailing_29 : decode cX3_runFailing 29 = .ok (.ishr, 1) := by decide +kernel
theorem dX3_runFailing_30 : decode cX3_runFailing 30 = .ok (.iconst 1, 1) := by decide +kernel
theorem dX3_runFailing_31 : decode cX3_runFailing 31 = .ok (.iand, 1) := by decide +kernel
theorem dX3_runFailing_32 : decode cX3_runFailing 32 = .ok (.iconst 1, 1) := by decide +kernel
theorem dX3_runFailing_33 : decode cX3_runFailing 33 = .ok (.if_icmp .ne 14, 3) := by decide +kernel
theorem dX3_runFailing_36 : decode cX3_runFailing 36 = .ok (.iload 4, 2) := by decide +kernel
theorem dX3_runFailing_38 : decode cX3_runFailing 38 = .ok (.bipush 100, 2) := by decide +kernel
theorem dX3_runFailing_40 : decode cX3_runFailing 40 = .ok (.if_icmp .ge 7, 3) := by decide +kernel
theorem dX3_runFailing_43 : decode cX3_runFailing 43 = .ok (.iconst 1, 1) := by decide +kernel
theorem dX3_runFailing_44 : decode cX3_runFailing 44 = .ok (.goto 4, 3) := by decide +kernel
theorem dX3_runFailing_47 : decode cX3_runFailing 47 = .ok (.iconst 0, 1) := by decide +kernel
theorem dX3_runFailing_48 : decode cX3_runFailing 48 = .ok (.istore 5, 2) := by decide +kernel
theorem dX3_runFailing_50 : decode cX3_runFailing 50 = .ok (.aload_n 0, 1) := by decide +kernel
theorem dX3_runFailing_51 : decode cX3_runFailing 51 = .ok (.getfield 16, 3) := by decide +kernel
theorem dX3_runFailing_54 : decode cX3_runFailing 54 = .ok (.iload 5, 2) := by decide +kernel
theorem dX3_runFailing_56 : decode cX3_runFailing 56 = .ok (.ifCond .eq 7, 3) := by decide +kernel
theorem dX3_runFailing_59 : decode cX3_runFailing 59 = .ok (.iconst 0, 1) := by decide +kernel
theorem dX3_runFailing_60 : decode cX3_runFailing 60 = .ok (.goto 5, 3) := by decide +kernel
theorem dX3_runFailing_63 : decode cX3_runFailing 63 = .ok (.iload 4, 2) := by decide +kernel
theorem dX3_runFailing_65 : decode cX3_runFailing 65 = .ok (.invokevirtual 242, 3) := by decide +kernel
theorem dX3_runFailing_68 : decode cX3_runFailing 68 = .ok (.iinc 3 1, 3) := by decide +kernel
theorem dX3_runFailing_71 : decode cX3_runFailing 71 = .ok (.goto (-58), 3) := by decide +kernel
theorem dX3_runFailing_74 : decode cX3_runFailing 74 = .ok (.return_, 1) := by decide +kernel
theorem dX3_weightOf_0 : decode cX3_weightOf 0 = .ok (.lconst 1, 1) := by decide +kernel
theorem dX3_weightOf_1 : decode cX3_weightOf 1 = .ok (.lstore_n 3, 1) := by decide +kernel
theorem dX3_weightOf_2 : decode cX3_weightOf 2 = .ok (.iconst 0, 1) := by decide +kernel
theorem dX3_weightOf_3 : decode cX3_weightOf 3 = .ok (.istore 5, 2) := by decide +kernel
theorem dX3_weightOf_5 : decode cX3_weightOf 5 = .ok (.iload 5, 2) := by decide +kernel
theorem dX3_weightOf_7 : decode cX3_weightOf 7 = .ok (.iload_n 2, 1) := by decide +kernel
theorem dX3_weightOf_8 : decode cX3_weightOf 8 = .ok (.if_icmp .ge 32, 3) := by decide +kernel
theorem dX3_weightOf_11 : decode cX3_weightOf 11 = .ok (.lload_n 3, 1) := by decide +kernel
theorem dX3_weightOf_12 : decode cX3_weightOf 12 = .ok (.iload_n 0, 1) := by decide +kernel
theorem dX3_weightOf_13 : decode cX3_weightOf 13 = .ok (.iload 5, 2) := by decide +kernel
theorem dX3_weightOf_15 : decode cX3_weightOf 15 = .ok (.ishr, 1) := by decide +kernel
theorem dX3_weightOf_16 : decode cX3_weightOf 16 = .ok (.iconst 1, 1) := by decide +kernel
theorem dX3_weightOf_17 : decode cX3_weightOf 17 = .ok (.iand, 1) := by decide +kernel
theorem dX3_weightOf_18 : decode cX3_weightOf 18 = .ok (.iconst 1, 1) := by decide +kernel
theorem dX3_weightOf_19 : decode cX3_weightOf 19 = .ok (.if_icmp .ne 8, 3) := by decide +kernel
theorem dX3_weightOf_22 : decode cX3_weightOf 22 = .ok (.iload_n 1, 1) := by decide +kernel
theorem dX3_weightOf_23 : decode cX3_weightOf 23 = .ok (.i2l, 1) := by decide +kernel
theorem dX3_weightOf_24 : decode cX3_weightOf 24 = .ok (.goto 8, 3) := by decide +kernel
theorem dX3_weightOf_27 : decode cX3_weightOf 27 = .ok (.bipush 10, 2) := by decide +kernel
theorem dX3_weightOf_29 : decode cX3_weightOf 29 = .ok (.iload_n 1, 1) := by decide +kernel
theorem dX3_weightOf_30 : decode cX3_weightOf 30 = .ok (.isub, 1) := by decide +kernel
theorem dX3_weightOf_31 : decode cX3_weightOf 31 = .ok (.i2l, 1) := by decide +kernel
theorem dX3_weightOf_32 : decode cX3_weightOf 32 = .ok (.lmul, 1) := by decide +kernel
theorem dX3_weightOf_33 : decode cX3_weightOf 33 = .ok (.lstore_n 3, 1) := by decide +kernel
theorem dX3_weightOf_34 : decode cX3_weightOf 34 = .ok (.iinc 5 1, 3) := by decide +kernel
theorem dX3_weightOf_37 : decode cX3_weightOf 37 = .ok (.goto (-32), 3) := by decide +kernel
theorem dX3_weightOf_40 : decode cX3_weightOf 40 = .ok (.lload_n 3, 1) := by decide +kernel
theorem dX3_weightOf_41 : decode cX3_weightOf 41 = .ok (.lreturn, 1) := by decide +kernel
theorem dX3_allWeights_0 : decode cX3_allWeights 0 = .ok (.lconst 1, 1) := by decide +kernel
theorem dX3_allWeights_1 : decode cX3_allWeights 1 = .ok (.lstore_n 1, 1) := by decide +kernel
theorem dX3_allWeights_2 : decode cX3_allWeights 2 = .ok (.iconst 0, 1) := by decide +kernel
theorem dX3_allWeights_3 : decode cX3_allWeights 3 = .ok (.istore_n 3, 1) := by decide +kernel
theorem dX3_allWeights_4 : decode cX3_allWeights 4 = .ok (.iload_n 3, 1) := by decide +kernel
theorem dX3_allWeights_5 : decode cX3_allWeights 5 = .ok (.iload_n 0, 1) := by decide +kernel
theorem dX3_allWeights_6 : decode cX3_allWeights 6 = .ok (.if_icmp .ge 15, 3) := by decide +kernel
theorem dX3_allWeights_9 : decode cX3_allWeights 9 = .ok (.lload_n 1, 1) := by decide +kernel
theorem dX3_allWeights_10 : decode cX3_allWeights 10 = .ok (.ldc2_w 274, 3) := by decide +kernel
theorem dX3_allWeights_13 : decode cX3_allWeights 13 = .ok (.lmul, 1) := by decide +kernel
theorem dX3_allWeights_14 : decode cX3_allWeights 14 = .ok (.lstore_n 1, 1) := by decide +kernel
theorem dX3_allWeights_15 : decode cX3_allWeights 15 = .ok (.iinc 3 1, 3) := by decide +kernel
theorem dX3_allWeights_18 : decode cX3_allWeights 18 = .ok (.goto (-14), 3) := by decide +kernel
theorem dX3_allWeights_21 : decode cX3_allWeights 21 = .ok (.lload_n 1, 1) := by decide +kernel
theorem dX3_allWeights_22 : decode cX3_allWeights 22 = .ok (.lreturn, 1) := by decide +kernel
theorem dX3_partOfFraction_0 : decode cX3_partOfFraction 0 = .ok (.lload_n 0, 1) := by decide +kernel
theorem dX3_partOfFraction_1 : decode cX3_partOfFraction 1 = .ok (.lstore 5, 2) := by decide +kernel
theorem dX3_partOfFraction_3 : decode cX3_partOfFraction 3 = .ok (.lload_n 2, 1) := by decide +kernel
theorem dX3_partOfFraction_4 : decode cX3_partOfFraction 4 = .ok (.lstore 7, 2) := by decide +kernel
theorem dX3_partOfFraction_6 : decode cX3_partOfFraction 6 = .ok (.iconst 0, 1) := by decide +kernel
theorem dX3_partOfFraction_7 : decode cX3_partOfFraction 7 = .ok (.istore 9, 2) := by decide +kernel
theorem dX3_partOfFraction_9 : decode cX3_partOfFraction 9 = .ok (.iload 9, 2) := by decide +kernel
theorem dX3_partOfFraction_11 : decode cX3_partOfFraction 11 = .ok (.bipush 100, 2) := by decide +kernel
theorem dX3_partOfFraction_13 : decode cX3_partOfFraction 13 = .ok (.if_icmp .ge 31, 3) := by decide +kernel
theorem dX3_partOfFraction_16 : decode cX3_partOfFraction 16 = .ok (.lload 7, 2) := by decide +kernel
theorem dX3_partOfFraction_18 : decode cX3_partOfFraction 18 = .ok (.lconst 0, 1) := by decide +kernel
theorem dX3_partOfFraction_19 : decode cX3_partOfFraction 19 = .ok (.lcmp, 1) := by decide +kernel
theorem dX3_partOfFraction_20 : decode cX3_partOfFraction 20 = .ok (.ifCond .eq 24, 3) := by decide +kernel
theorem dX3_partOfFraction_23 : decode cX3_partOfFraction 23 = .ok (.lload 5, 2) := by decide +kernel
theorem dX3_partOfFraction_25 : decode cX3_partOfFraction 25 = .ok (.lload 7, 2) := by decide +kernel
theorem dX3_partOfFraction_27 : decode cX3_partOfFraction 27 = .ok (.lrem, 1) := by decide +kernel
theorem dX3_partOfFraction_28 : decode cX3_partOfFraction 28 = .ok (.lstore 10, 2) := by decide +kernel
theorem dX3_partOfFraction_30 : decode cX3_partOfFraction 30 = .ok (.lload 7, 2) := by decide +kernel
theorem dX3_partOfFraction_32 : decode cX3_partOfFraction 32 = .ok (.lstore 5, 2) := by decide +kernel
theorem dX3_partOfFraction_34 : decode cX3_partOfFraction 34 = .ok (.lload 10, 2) := by decide +kernel
theorem dX3_partOfFraction_36 : decode cX3_partOfFraction 36 = .ok (.lstore 7, 2) := by decide +kernel
theorem dX3_partOfFraction_38 : decode cX3_partOfFraction 38 = .ok (.iinc 9 1, 3) := by decide +kernel
theorem dX3_partOfFraction_41 : decode cX3_partOfFraction 41 = .ok (.goto (-32), 3) := by decide +kernel
theorem dX3_partOfFraction_44 : decode cX3_partOfFraction 44 = .ok (.iload 4, 2) := by decide +kernel
theorem dX3_partOfFraction_46 : decode cX3_partOfFraction 46 = .ok (.ifCond .ne 7, 3) := by decide +kernel
theorem dX3_partOfFraction_49 : decode cX3_partOfFraction 49 = .ok (.lload_n 0, 1) := by decide +kernel
theorem dX3_partOfFraction_50 : decode cX3_partOfFraction 50 = .ok (.goto 4, 3) := by decide +kernel
theorem dX3_partOfFraction_53 : decode cX3_partOfFraction 53 = .ok (.lload_n 2, 1) := by decide +kernel
theorem dX3_partOfFraction_54 : decode cX3_partOfFraction 54 = .ok (.lstore 9, 2) := by decide +kernel
theorem dX3_partOfFraction_56 : decode cX3_partOfFraction 56 = .ok (.lload 5, 2) := by decide +kernel
theorem dX3_partOfFraction_58 : decode cX3_partOfFraction 58 = .ok (.lconst 0, 1) := by decide +kernel
theorem dX3_partOfFraction_59 : decode cX3_partOfFraction 59 = .ok (.lcmp, 1) := by decide +kernel
theorem dX3_partOfFraction_60 : decode cX3_partOfFraction 60 = .ok (.ifCond .le 11, 3) := by decide +kernel
theorem dX3_partOfFraction_63 : decode cX3_partOfFraction 63 = .ok (.lload 9, 2) := by decide +kernel
theorem dX3_partOfFraction_65 : decode cX3_partOfFraction 65 = .ok (.lload 5, 2) := by decide +kernel
theorem dX3_partOfFraction_67 : decode cX3_partOfFraction 67 = .ok (.ldiv, 1) := by decide +kernel
theorem dX3_partOfFraction_68 : decode cX3_partOfFraction 68 = .ok (.goto 5, 3) := by decide +kernel
theorem dX3_partOfFraction_71 : decode cX3_partOfFraction 71 = .ok (.lload 9, 2) := by decide +kernel
theorem dX3_partOfFraction_73 : decode cX3_partOfFraction 73 = .ok (.lreturn, 1) := by decide +kernel
theorem dX3_fittingLosses_0 : decode cX3_fittingLosses 0 = .ok (.iconst 0, 1) := by decide +kernel
theorem dX3_fittingLosses_1 : decode cX3_fittingLosses 1 = .ok (.istore_n 2, 1) := by decide +kernel
theorem dX3_fittingLosses_2 : decode cX3_fittingLosses 2 = .ok (.iconst 0, 1) := by decide +kernel
theorem dX3_fittingLosses_3 : decode cX3_fittingLosses 3 = .ok (.istore_n 3, 1) := by decide +kernel
theorem dX3_fittingLosses_4 : decode cX3_fittingLosses 4 = .ok (.iload_n 3, 1) := by decide +kernel
theorem dX3_fittingLosses_5 : decode cX3_fittingLosses 5 = .ok (.bipush 9, 2) := by decide +kernel
theorem dX3_fittingLosses_7 : decode cX3_fittingLosses 7 = .ok (.if_icmp .gt 43, 3) := by decide +kernel
theorem dX3_fittingLosses_10 : decode cX3_fittingLosses 10 = .ok (.aload_n 0, 1) := by decide +kernel
theorem dX3_fittingLosses_11 : decode cX3_fittingLosses 11 = .ok (.getfield 16, 3) := by decide +kernel
theorem dX3_fittingLosses_14 : decode cX3_fittingLosses 14 = .ok (.aload_n 0, 1) := by decide +kernel
theorem dX3_fittingLosses_15 : decode cX3_fittingLosses 15 = .ok (.getfield 10, 3) := by decide +kernel
theorem dX3_fittingLosses_18 : decode cX3_fittingLosses 18 = .ok (.invokevirtual 164, 3) := by decide +kernel
theorem dX3_fittingLosses_21 : decode cX3_fittingLosses 21 = .ok (.aload_n 0, 1) := by decide +kernel
theorem dX3_fittingLosses_22 : decode cX3_fittingLosses 22 = .ok (.getfield 16, 3) := by decide +kernel
theorem dX3_fittingLosses_25 : decode cX3_fittingLosses 25 = .ok (.getfield 127, 3) := by decide +kernel
theorem dX3_fittingLosses_28 : decode cX3_fittingLosses 28 = .ok (.iload_n 1, 1) := by decide +kernel
theorem dX3_fittingLosses_29 : decode cX3_fittingLosses 29 = .ok (.iload_n 3, 1) := by decide +kernel
theorem dX3_fittingLosses_30 : decode cX3_fittingLosses 30 = .ok (.iastore, 1) := by decide +kernel
theorem dX3_fittingLosses_31 : decode cX3_fittingLosses 31 = .ok (.aload_n 0, 1) := by decide +kernel
theorem dX3_fittingLosses_32 : decode cX3_fittingLosses 32 = .ok (.invokevirtual 223, 3) := by decide +kernel
theorem dX3_fittingLosses_35 : decode cX3_fittingLosses 35 = .ok (.ifCond .eq 9, 3) := by decide +kernel
theorem dX3_fittingLosses_38 : decode cX3_fittingLosses 38 = .ok (.iload_n 2, 1) := by decide +kernel
theorem dX3_fittingLosses_39 : decode cX3_fittingLosses 39 = .ok (.iconst 1, 1) := by decide +kernel
theorem dX3_fittingLosses_40 : decode cX3_fittingLosses 40 = .ok (.iload_n 3, 1) := by decide +kernel
theorem dX3_fittingLosses_41 : decode cX3_fittingLosses 41 = .ok (.ishl, 1) := by decide +kernel
theorem dX3_fittingLosses_42 : decode cX3_fittingLosses 42 = .ok (.ior, 1) := by decide +kernel
theorem dX3_fittingLosses_43 : decode cX3_fittingLosses 43 = .ok (.istore_n 2, 1) := by decide +kernel
theorem dX3_fittingLosses_44 : decode cX3_fittingLosses 44 = .ok (.iinc 3 1, 3) := by decide +kernel
theorem dX3_fittingLosses_47 : decode cX3_fittingLosses 47 = .ok (.goto (-43), 3) := by decide +kernel
theorem dX3_fittingLosses_50 : decode cX3_fittingLosses 50 = .ok (.iload_n 2, 1) := by decide +kernel
theorem dX3_fittingLosses_51 : decode cX3_fittingLosses 51 = .ok (.ireturn, 1) := by decide +kernel
theorem dX3_trialGoesAsSeen_0 : decode cX3_trialGoesAsSeen 0 = .ok (.iconst 0, 1) := by decide +kernel
theorem dX3_trialGoesAsSeen_1 : decode cX3_trialGoesAsSeen 1 = .ok (.istore_n 1, 1) := by decide +kernel
theorem dX3_trialGoesAsSeen_2 : decode cX3_trialGoesAsSeen 2 = .ok (.iconst 0, 1) := by decide +kernel
theorem dX3_trialGoesAsSeen_3 : decode cX3_trialGoesAsSeen 3 = .ok (.istore_n 2, 1) := by decide +kernel
theorem dX3_trialGoesAsSeen_4 : decode cX3_trialGoesAsSeen 4 = .ok (.iload_n 2, 1) := by decide +kernel
theorem dX3_trialGoesAsSeen_5 : decode cX3_trialGoesAsSeen 5 = .ok (.aload_n 0, 1) := by decide +kernel
theorem dX3_trialGoesAsSeen_6 : decode cX3_trialGoesAsSeen 6 = .ok (.getfield 53, 3) := by decide +kernel
theorem dX3_trialGoesAsSeen_9 : decode cX3_trialGoesAsSeen 9 = .ok (.if_icmp .ge 20, 3) := by decide +kernel
theorem dX3_trialGoesAsSeen_12 : decode cX3_trialGoesAsSeen 12 = .ok (.iload_n 1, 1) := by decide +kernel
theorem dX3_trialGoesAsSeen_13 : decode cX3_trialGoesAsSeen 13 = .ok (.aload_n 0, 1) := by decide +kernel
theorem dX3_trialGoesAsSeen_14 : decode cX3_trialGoesAsSeen 14 = .ok (.getfield 43, 3) := by decide +kernel
theorem dX3_trialGoesAsSeen_17 : decode cX3_trialGoesAsSeen 17 = .ok (.iload_n 2, 1) := by decide +kernel
theorem dX3_trialGoesAsSeen_18 : decode cX3_trialGoesAsSeen 18 = .ok (.iaload, 1) := by decide +kernel
theorem dX3_trialGoesAsSeen_19 : decode cX3_trialGoesAsSeen 19 = .ok (.invokestatic 170, 3) := by decide +kernel
theorem dX3_trialGoesAsSeen_22 : decode cX3_trialGoesAsSeen 22 = .ok (.istore_n 1, 1) := by decide +kernel
theorem dX3_trialGoesAsSeen_23 : decode cX3_trialGoesAsSeen 23 = .ok (.iinc 2 1, 3) := by decide +kernel
theorem dX3_trialGoesAsSeen_26 : decode cX3_trialGoesAsSeen 26 = .ok (.goto (-22), 3) := by decide +kernel
theorem dX3_trialGoesAsSeen_29 : decode cX3_trialGoesAsSeen 29 = .ok (.iconst 0, 1) := by decide +kernel
theorem dX3_trialGoesAsSeen_30 : decode cX3_trialGoesAsSeen 30 = .ok (.istore_n 2, 1) := by decide +kernel
theorem dX3_trialGoesAsSeen_31 : decode cX3_trialGoesAsSeen 31 = .ok (.iload_n 2, 1) := by decide +kernel
theorem dX3_trialGoesAsSeen_32 : decode cX3_trialGoesAsSeen 32 = .ok (.iload_n 1, 1) := by decide +kernel
theorem dX3_trialGoesAsSeen_33 : decode cX3_trialGoesAsSeen 33 = .ok (.if_icmp .gt 26, 3) := by decide +kernel
theorem dX3_trialGoesAsSeen_36 : decode cX3_trialGoesAsSeen 36 = .ok (.aload_n 0, 1) := by decide +kernel
theorem dX3_trialGoesAsSeen_37 : decode cX3_trialGoesAsSeen 37 = .ok (.iload_n 2, 1) := by decide +kernel
theorem dX3_trialGoesAsSeen_38 : decode cX3_trialGoesAsSeen 38 = .ok (.invokevirtual 276, 3) := by decide +kernel
theorem dX3_trialGoesAsSeen_41 : decode cX3_trialGoesAsSeen 41 = .ok (.ifCond .ne 5, 3) := by decide +kernel
theorem dX3_trialGoesAsSeen_44 : decode cX3_trialGoesAsSeen 44 = .ok (.iconst 0, 1) := by decide +kernel
theorem dX3_trialGoesAsSeen_45 : decode cX3_trialGoesAsSeen 45 = .ok (.ireturn, 1) := by decide +kernel
theorem dX3_trialGoesAsSeen_46 : decode cX3_trialGoesAsSeen 46 = .ok (.aload_n 0, 1) := by decide +kernel
theorem dX3_trialGoesAsSeen_47 : decode cX3_trialGoesAsSeen 47 = .ok (.getfield 16, 3) := by decide +kernel
theorem dX3_trialGoesAsSeen_50 : decode cX3_trialGoesAsSeen 50 = .ok (.invokevirtual 167, 3) := by decide +kernel
theorem dX3_trialGoesAsSeen_53 : decode cX3_trialGoesAsSeen 53 = .ok (.iinc 2 1, 3) := by decide +kernel
theorem dX3_trialGoesAsSeen_56 : decode cX3_trialGoesAsSeen 56 = .ok (.goto (-25), 3) := by decide +kernel
theorem dX3_trialGoesAsSeen_59 : decode cX3_trialGoesAsSeen 59 = .ok (.iconst 1, 1) := by decide +kernel
theorem dX3_trialGoesAsSeen_60 : decode cX3_trialGoesAsSeen 60 = .ok (.ireturn, 1) := by decide +kernel
theorem dX3_trialIsAsSeen_0 : decode cX3_trialIsAsSeen 0 = .ok (.iconst 0, 1) := by decide +kernel
theorem dX3_trialIsAsSeen_1 : decode cX3_trialIsAsSeen 1 = .ok (.istore_n 2, 1) := by decide +kernel
theorem dX3_trialIsAsSeen_2 : decode cX3_trialIsAsSeen 2 = .ok (.iload_n 2, 1) := by decide +kernel
theorem dX3_trialIsAsSeen_3 : decode cX3_trialIsAsSeen 3 = .ok (.aload_n 0, 1) := by decide +kernel
theorem dX3_trialIsAsSeen_4 : decode cX3_trialIsAsSeen 4 = .ok (.getfield 53, 3) := by decide +kernel
theorem dX3_trialIsAsSeen_7 : decode cX3_trialIsAsSeen 7 = .ok (.if_icmp .ge 57, 3) := by decide +kernel
theorem dX3_trialIsAsSeen_10 : decode cX3_trialIsAsSeen 10 = .ok (.aload_n 0, 1) := by decide +kernel
theorem dX3_trialIsAsSeen_11 : decode cX3_trialIsAsSeen 11 = .ok (.getfield 47, 3) := by decide +kernel
theorem dX3_trialIsAsSeen_14 : decode cX3_trialIsAsSeen 14 = .ok (.iload_n 2, 1) := by decide +kernel
theorem dX3_trialIsAsSeen_15 : decode cX3_trialIsAsSeen 15 = .ok (.iaload, 1) := by decide +kernel
theorem dX3_trialIsAsSeen_16 : decode cX3_trialIsAsSeen 16 = .ok (.istore_n 3, 1) := by decide +kernel
theorem dX3_trialIsAsSeen_17 : decode cX3_trialIsAsSeen 17 = .ok (.aload_n 0, 1) := by decide +kernel
theorem dX3_trialIsAsSeen_18 : decode cX3_trialIsAsSeen 18 = .ok (.getfield 43, 3) := by decide +kernel
theorem dX3_trialIsAsSeen_21 : decode cX3_trialIsAsSeen 21 = .ok (.iload_n 2, 1) := by decide +kernel
theorem dX3_trialIsAsSeen_22 : decode cX3_trialIsAsSeen 22 = .ok (.iaload, 1) := by decide +kernel
theorem dX3_trialIsAsSeen_23 : decode cX3_trialIsAsSeen 23 = .ok (.iload_n 1, 1) := by decide +kernel
theorem dX3_trialIsAsSeen_24 : decode cX3_trialIsAsSeen 24 = .ok (.if_icmp .ne 34, 3) := by decide +kernel
theorem dX3_trialIsAsSeen_27 : decode cX3_trialIsAsSeen 27 = .ok (.aload_n 0, 1) := by decide +kernel
theorem dX3_trialIsAsSeen_28 : decode cX3_trialIsAsSeen 28 = .ok (.getfield 16, 3) := by decide +kernel
theorem dX3_trialIsAsSeen_31 : decode cX3_trialIsAsSeen 31 = .ok (.iload_n 3, 1) := by decide +kernel
theorem dX3_trialIsAsSeen_32 : decode cX3_trialIsAsSeen 32 = .ok (.invokevirtual 117, 3) := by decide +kernel
theorem dX3_trialIsAsSeen_35 : decode cX3_trialIsAsSeen 35 = .ok (.ifCond .eq 21, 3) := by decide +kernel
theorem dX3_trialIsAsSeen_38 : decode cX3_trialIsAsSeen 38 = .ok (.aload_n 0, 1) := by decide +kernel
theorem dX3_trialIsAsSeen_39 : decode cX3_trialIsAsSeen 39 = .ok (.getfield 16, 3) := by decide +kernel
theorem dX3_trialIsAsSeen_42 : decode cX3_trialIsAsSeen 42 = .ok (.getfield 130, 3) := by decide +kernel
theorem dX3_trialIsAsSeen_45 : decode cX3_trialIsAsSeen 45 = .ok (.iload_n 3, 1) := by decide +kernel
theorem dX3_trialIsAsSeen_46 : decode cX3_trialIsAsSeen 46 = .ok (.iaload, 1) := by decide +kernel
theorem dX3_trialIsAsSeen_47 : decode cX3_trialIsAsSeen 47 = .ok (.aload_n 0, 1) := by decide +kernel
theorem dX3_trialIsAsSeen_48 : decode cX3_trialIsAsSeen 48 = .ok (.getfield 50, 3) := by decide +kernel
theorem dX3_trialIsAsSeen_51 : decode cX3_trialIsAsSeen 51 = .ok (.iload_n 2, 1) := by decide +kernel
theorem dX3_trialIsAsSeen_52 : decode cX3_trialIsAsSeen 52 = .ok (.iaload, 1) := by decide +kernel
theorem dX3_trialIsAsSeen_53 : decode cX3_trialIsAsSeen 53 = .ok (.if_icmp .eq 5, 3) := by decide +kernel
theorem dX3_trialIsAsSeen_56 : decode cX3_trialIsAsSeen 56 = .ok (.iconst 0, 1) := by decide +kernel
theorem dX3_trialIsAsSeen_57 : decode cX3_trialIsAsSeen 57 = .ok (.ireturn, 1) := by decide +kernel
theorem dX3_trialIsAsSeen_58 : decode cX3_trialIsAsSeen 58 = .ok (.iinc 2 1, 3) := by decide +kernel
theorem dX3_trialIsAsSeen_61 : decode cX3_trialIsAsSeen 61 = .ok (.goto (-59), 3) := by decide +kernel
theorem dX3_trialIsAsSeen_64 : decode cX3_trialIsAsSeen 64 = .ok (.iconst 1, 1) := by decide +kernel
theorem dX3_trialIsAsSeen_65 : decode cX3_trialIsAsSeen 65 = .ok (.ireturn, 1) := by decide +kernel
theorem dX3_lookAhead_0 : decode cX3_lookAhead 0 = .ok (.iconst 0, 1) := by decide +kernel
theorem dX3_lookAhead_1 : decode cX3_lookAhead 1 = .ok (.istore_n 3, 1) := by decide +kernel
theorem dX3_lookAhead_2 : decode cX3_lookAhead 2 = .ok (.iload_n 3, 1) := by decide +kernel
theorem dX3_lookAhead_3 : decode cX3_lookAhead 3 = .ok (.bipush 9, 2) := by decide +kernel
theorem dX3_lookAhead_5 : decode cX3_lookAhead 5 = .ok (.if_icmp .gt 83, 3) := by decide +kernel
theorem dX3_lookAhead_8 : decode cX3_lookAhead 8 = .ok (.iload_n 2, 1) := by decide +kernel
theorem dX3_lookAhead_9 : decode cX3_lookAhead 9 = .ok (.iload_n 3, 1) := by decide +kernel
theorem dX3_lookAhead_10 : decode cX3_lookAhead 10 = .ok (.ishr, 1) := by decide +kernel
theorem dX3_lookAhead_11 : decode cX3_lookAhead 11 = .ok (.iconst 1, 1) := by decide +kernel
theorem dX3_lookAhead_12 : decode cX3_lookAhead 12 = .ok (.iand, 1) := by decide +kernel
theorem dX3_lookAhead_13 : decode cX3_lookAhead 13 = .ok (.iconst 1, 1) := by decide +kernel
theorem dX3_lookAhead_14 : decode cX3_lookAhead 14 = .ok (.if_icmp .ne 68, 3) := by decide +kernel
theorem dX3_lookAhead_17 : decode cX3_lookAhead 17 = .ok (.aload_n 0, 1) := by decide +kernel
theorem dX3_lookAhead_18 : decode cX3_lookAhead 18 = .ok (.getfield 16, 3) := by decide +kernel
theorem dX3_lookAhead_21 : decode cX3_lookAhead 21 = .ok (.aload_n 0, 1) := by decide +kernel
theorem dX3_lookAhead_22 : decode cX3_lookAhead 22 = .ok (.getfield 10, 3) := by decide +kernel
theorem dX3_lookAhead_25 : decode cX3_lookAhead 25 = .ok (.invokevirtual 164, 3) := by decide +kernel
theorem dX3_lookAhead_28 : decode cX3_lookAhead 28 = .ok (.aload_n 0, 1) := by decide +kernel
theorem dX3_lookAhead_29 : decode cX3_lookAhead 29 = .ok (.getfield 16, 3) := by decide +kernel
theorem dX3_lookAhead_32 : decode cX3_lookAhead 32 = .ok (.getfield 127, 3) := by decide +kernel
theorem dX3_lookAhead_35 : decode cX3_lookAhead 35 = .ok (.iload_n 1, 1) := by decide +kernel
theorem dX3_lookAhead_36 : decode cX3_lookAhead 36 = .ok (.iload_n 3, 1) := by decide +kernel
theorem dX3_lookAhead_37 : decode cX3_lookAhead 37 = .ok (.iastore, 1) := by decide +kernel
theorem dX3_lookAhead_38 : decode cX3_lookAhead 38 = .ok (.iconst 0, 1) := by decide +kernel
theorem dX3_lookAhead_39 : decode cX3_lookAhead 39 = .ok (.istore 4, 2) := by decide +kernel
theorem dX3_lookAhead_41 : decode cX3_lookAhead 41 = .ok (.iload 4, 2) := by decide +kernel
theorem dX3_lookAhead_43 : decode cX3_lookAhead 43 = .ok (.bipush 40, 2) := by decide +kernel
theorem dX3_lookAhead_45 : decode cX3_lookAhead 45 = .ok (.if_icmp .gt 37, 3) := by decide +kernel
theorem dX3_lookAhead_48 : decode cX3_lookAhead 48 = .ok (.aload_n 0, 1) := by decide +kernel
theorem dX3_lookAhead_49 : decode cX3_lookAhead 49 = .ok (.getfield 63, 3) := by decide +kernel
theorem dX3_lookAhead_52 : decode cX3_lookAhead 52 = .ok (.iload_n 3, 1) := by decide +kernel
theorem dX3_lookAhead_53 : decode cX3_lookAhead 53 = .ok (.bipush 41, 2) := by decide +kernel
theorem dX3_lookAhead_55 : decode cX3_lookAhead 55 = .ok (.imul, 1) := by decide +kernel
theorem dX3_lookAhead_56 : decode cX3_lookAhead 56 = .ok (.iload 4, 2) := by decide +kernel
theorem dX3_lookAhead_58 : decode cX3_lookAhead 58 = .ok (.iadd, 1) := by decide +kernel
theorem dX3_lookAhead_59 : decode cX3_lookAhead 59 = .ok (.aload_n 0, 1) := by decide +kernel
theorem dX3_lookAhead_60 : decode cX3_lookAhead 60 = .ok (.getfield 16, 3) := by decide +kernel
theorem dX3_lookAhead_63 : decode cX3_lookAhead 63 = .ok (.getfield 130, 3) := by decide +kernel
theorem dX3_lookAhead_66 : decode cX3_lookAhead 66 = .ok (.iload_n 1, 1) := by decide +kernel
theorem dX3_lookAhead_67 : decode cX3_lookAhead 67 = .ok (.iaload, 1) := by decide +kernel
theorem dX3_lookAhead_68 : decode cX3_lookAhead 68 = .ok (.iastore, 1) := by decide +kernel
theorem dX3_lookAhead_69 : decode cX3_lookAhead 69 = .ok (.aload_n 0, 1) := by decide +kernel
theorem dX3_lookAhead_70 : decode cX3_lookAhead 70 = .ok (.getfield 16, 3) := by decide +kernel
theorem dX3_lookAhead_73 : decode cX3_lookAhead 73 = .ok (.invokevirtual 167, 3) := by decide +kernel
theorem dX3_lookAhead_76 : decode cX3_lookAhead 76 = .ok (.iinc 4 1, 3) := by decide +kernel
theorem dX3_lookAhead_79 : decode cX3_lookAhead 79 = .ok (.goto (-38), 3) := by decide +kernel
theorem dX3_lookAhead_82 : decode cX3_lookAhead 82 = .ok (.iinc 3 1, 3) := by decide +kernel
theorem dX3_lookAhead_85 : decode cX3_lookAhead 85 = .ok (.goto (-83), 3) := by decide +kernel
theorem dX3_lookAhead_88 : decode cX3_lookAhead 88 = .ok (.return_, 1) := by decide +kernel
theorem dX3_leftAtWorst_0 : decode cX3_leftAtWorst 0 = .ok (.iconst 0, 1) := by decide +kernel
theorem dX3_leftAtWorst_1 : decode cX3_leftAtWorst 1 = .ok (.istore_n 3, 1) := by decide +kernel
theorem dX3_leftAtWorst_2 : decode cX3_leftAtWorst 2 = .ok (.iconst 0, 1) := by decide +kernel
theorem dX3_leftAtWorst_3 : decode cX3_leftAtWorst 3 = .ok (.istore 4, 2) := by decide +kernel
theorem dX3_leftAtWorst_5 : decode cX3_leftAtWorst 5 = .ok (.iload 4, 2) := by decide +kernel
theorem dX3_leftAtWorst_7 : decode cX3_leftAtWorst 7 = .ok (.bipush 9, 2) := by decide +kernel
theorem dX3_leftAtWorst_9 : decode cX3_leftAtWorst 9 = .ok (.if_icmp .gt 32, 3) := by decide +kernel
theorem dX3_leftAtWorst_12 : decode cX3_leftAtWorst 12 = .ok (.iload_n 2, 1) := by decide +kernel
theorem dX3_leftAtWorst_13 : decode cX3_leftAtWorst 13 = .ok (.iload 4, 2) := by decide +kernel
theorem dX3_leftAtWorst_15 : decode cX3_leftAtWorst 15 = .ok (.ishr, 1) := by decide +kernel
theorem dX3_leftAtWorst_16 : decode cX3_leftAtWorst 16 = .ok (.iconst 1, 1) := by decide +kernel
theorem dX3_leftAtWorst_17 : decode cX3_leftAtWorst 17 = .ok (.iand, 1) := by decide +kernel
theorem dX3_leftAtWorst_18 : decode cX3_leftAtWorst 18 = .ok (.iconst 1, 1) := by decide +kernel
theorem dX3_leftAtWorst_19 : decode cX3_leftAtWorst 19 = .ok (.if_icmp .ne 16, 3) := by decide +kernel
theorem dX3_leftAtWorst_22 : decode cX3_leftAtWorst 22 = .ok (.iload_n 3, 1) := by decide +kernel
theorem dX3_leftAtWorst_23 : decode cX3_leftAtWorst 23 = .ok (.aload_n 0, 1) := by decide +kernel
theorem dX3_leftAtWorst_24 : decode cX3_leftAtWorst 24 = .ok (.iload 4, 2) := by decide +kernel
theorem dX3_leftAtWorst_26 : decode cX3_leftAtWorst 26 = .ok (.iload_n 1, 1) := by decide +kernel
theorem dX3_leftAtWorst_27 : decode cX3_leftAtWorst 27 = .ok (.iload_n 2, 1) := by decide +kernel
theorem dX3_leftAtWorst_28 : decode cX3_leftAtWorst 28 = .ok (.invokevirtual 279, 3) := by decide +kernel
theorem dX3_leftAtWorst_31 : decode cX3_leftAtWorst 31 = .ok (.invokestatic 170, 3) := by decide +kernel
theorem dX3_leftAtWorst_34 : decode cX3_leftAtWorst 34 = .ok (.istore_n 3, 1) := by decide +kernel
theorem dX3_leftAtWorst_35 : decode cX3_leftAtWorst 35 = .ok (.iinc 4 1, 3) := by decide +kernel
theorem dX3_leftAtWorst_38 : decode cX3_leftAtWorst 38 = .ok (.goto (-33), 3) := by decide +kernel
theorem dX3_leftAtWorst_41 : decode cX3_leftAtWorst 41 = .ok (.iload_n 3, 1) := by decide +kernel
theorem dX3_leftAtWorst_42 : decode cX3_leftAtWorst 42 = .ok (.ireturn, 1) := by decide +kernel
theorem dX3_lossesLookingLike_0 : decode cX3_lossesLookingLike 0 = .ok (.aload_n 0, 1) := by decide +kernel
theorem dX3_lossesLookingLike_1 : decode cX3_lossesLookingLike 1 = .ok (.getfield 63, 3) := by decide +kernel
theorem dX3_lossesLookingLike_4 : decode cX3_lossesLookingLike 4 = .ok (.iload_n 1, 1) := by decide +kernel
theorem dX3_lossesLookingLike_5 : decode cX3_lossesLookingLike 5 = .ok (.bipush 41, 2) := by decide +kernel
theorem dX3_lossesLookingLike_7 : decode cX3_lossesLookingLike 7 = .ok (.imul, 1) := by decide +kernel
theorem dX3_lossesLookingLike_8 : decode cX3_lossesLookingLike 8 = .ok (.iload_n 2, 1) := by decide +kernel
theorem dX3_lossesLookingLike_9 : decode cX3_lossesLookingLike 9 = .ok (.iadd, 1) := by decide +kernel
theorem dX3_lossesLookingLike_10 : decode cX3_lossesLookingLike 10 = .ok (.iaload, 1) := by decide +kernel
theorem dX3_lossesLookingLike_11 : decode cX3_lossesLookingLike 11 = .ok (.istore 4, 2) := by decide +kernel
theorem dX3_lossesLookingLike_13 : decode cX3_lossesLookingLike 13 = .ok (.iconst 0, 1) := by decide +kernel
theorem dX3_lossesLookingLike_14 : decode cX3_lossesLookingLike 14 = .ok (.istore 5, 2) := by decide +kernel
theorem dX3_lossesLookingLike_16 : decode cX3_lossesLookingLike 16 = .ok (.iconst 0, 1) := by decide +kernel
theorem dX3_lossesLookingLike_17 : decode cX3_lossesLookingLike 17 = .ok (.istore 6, 2) := by decide +kernel
theorem dX3_lossesLookingLike_19 : decode cX3_lossesLookingLike 19 = .ok (.iload 6, 2) := by decide +kernel
theorem dX3_lossesLookingLike_21 : decode cX3_lossesLookingLike 21 = .ok (.bipush 9, 2) := by decide +kernel
theorem dX3_lossesLookingLike_23 : decode cX3_lossesLookingLike 23 = .ok (.if_icmp .gt 39, 3) := by decide +kernel
theorem dX3_lossesLookingLike_26 : decode cX3_lossesLookingLike 26 = .ok (.iload_n 3, 1) := by decide +kernel
theorem dX3_lossesLookingLike_27 : decode cX3_lossesLookingLike 27 = .ok (.iload 6, 2) := by decide +kernel
theorem dX3_lossesLookingLike_29 : decode cX3_lossesLookingLike 29 = .ok (.ishr, 1) := by decide +kernel
theorem dX3_lossesLookingLike_30 : decode cX3_lossesLookingLike 30 = .ok (.iconst 1, 1) := by decide +kernel
theorem dX3_lossesLookingLike_31 : decode cX3_lossesLookingLike 31 = .ok (.iand, 1) := by decide +kernel
theorem dX3_lossesLookingLike_32 : decode cX3_lossesLookingLike 32 = .ok (.iconst 1, 1) := by decide +kernel
theorem dX3_lossesLookingLike_33 : decode cX3_lossesLookingLike 33 = .ok (.if_icmp .ne 23, 3) := by decide +kernel
theorem dX3_lossesLookingLike_36 : decode cX3_lossesLookingLike 36 = .ok (.aload_n 0, 1) := by decide +kernel
theorem dX3_lossesLookingLike_37 : decode cX3_lossesLookingLike 37 = .ok (.getfield 63, 3) := by decide +kernel
theorem dX3_lossesLookingLike_40 : decode cX3_lossesLookingLike 40 = .ok (.iload 6, 2) := by decide +kernel
theorem dX3_lossesLookingLike_42 : decode cX3_lossesLookingLike 42 = .ok (.bipush 41, 2) := by decide +kernel
theorem dX3_lossesLookingLike_44 : decode cX3_lossesLookingLike 44 = .ok (.imul, 1) := by decide +kernel
theorem dX3_lossesLookingLike_45 : decode cX3_lossesLookingLike 45 = .ok (.iload_n 2, 1) := by decide +kernel
theorem dX3_lossesLookingLike_46 : decode cX3_lossesLookingLike 46 = .ok (.iadd, 1) := by decide +kernel
theorem dX3_lossesLookingLike_47 : decode cX3_lossesLookingLike 47 = .ok (.iaload, 1) := by decide +kernel
theorem dX3_lossesLookingLike_48 : decode cX3_lossesLookingLike 48 = .ok (.iload 4, 2) := by decide +kernel
theorem dX3_lossesLookingLike_50 : decode cX3_lossesLookingLike 50 = .ok (.if_icmp .ne 6, 3) := by decide +kernel
theorem dX3_lossesLookingLike_53 : decode cX3_lossesLookingLike 53 = .ok (.iinc 5 1, 3) := by decide +kernel
theorem dX3_lossesLookingLike_56 : decode cX3_lossesLookingLike 56 = .ok (.iinc 6 1, 3) := by decide +kernel
theorem dX3_lossesLookingLike_59 : decode cX3_lossesLookingLike 59 = .ok (.goto (-40), 3) := by decide +kernel
theorem dX3_lossesLookingLike_62 : decode cX3_lossesLookingLike 62 = .ok (.iload 5, 2) := by decide +kernel
theorem dX3_lossesLookingLike_64 : decode cX3_lossesLookingLike 64 = .ok (.ireturn, 1) := by decide +kernel
theorem dX4_init_0 : decode cX4_init 0 = .ok (.aload_n 0, 1) := by decide +kernel
theorem dX4_init_1 : decode cX4_init 1 = .ok (.invokespecial 1, 3) := by decide +kernel
theorem dX4_init_4 : decode cX4_init 4 = .ok (.aload_n 0, 1) := by decide +kernel
theorem dX4_init_5 : decode cX4_init 5 = .ok (.sipush 234, 3) := by decide +kernel
theorem dX4_init_8 : decode cX4_init 8 = .ok (.newarray .int, 2) := by decide +kernel
theorem dX4_init_10 : decode cX4_init 10 = .ok (.putfield 7, 3) := by decide +kernel
theorem dX4_init_13 : decode cX4_init 13 = .ok (.aload_n 0, 1) := by decide +kernel
theorem dX4_init_14 : decode cX4_init 14 = .ok (.bipush 39, 2) := by decide +kernel
theorem dX4_init_16 : decode cX4_init 16 = .ok (.newarray .int, 2) := by decide +kernel
theorem dX4_init_18 : decode cX4_init 18 = .ok (.putfield 13, 3) := by decide +kernel
theorem dX4_init_21 : decode cX4_init 21 = .ok (.aload_n 0, 1) := by decide +kernel
theorem dX4_init_22 : decode cX4_init 22 = .ok (.sipush 160, 3) := by decide +kernel
theorem dX4_init_25 : decode cX4_init 25 = .ok (.newarray .int, 2) := by decide +kernel
theorem dX4_init_27 : decode cX4_init 27 = .ok (.putfield 16, 3) := by decide +kernel
theorem dX4_init_30 : decode cX4_init 30 = .ok (.aload_n 0, 1) := by decide +kernel
theorem dX4_init_31 : decode cX4_init 31 = .ok (.bipush 9, 2) := by decide +kernel
theorem dX4_init_33 : decode cX4_init 33 = .ok (.newarray .int, 2) := by decide +kernel
theorem dX4_init_35 : decode cX4_init 35 = .ok (.dup, 1) := by decide +kernel
theorem dX4_init_36 : decode cX4_init 36 = .ok (.iconst 0, 1) := by decide +kernel
theorem dX4_init_37 : decode cX4_init 37 = .ok (.iconst 0, 1) := by decide +kernel
theorem dX4_init_38 : decode cX4_init 38 = .ok (.iastore, 1) := by decide +kernel
theorem dX4_init_39 : decode cX4_init 39 = .ok (.dup, 1) := by decide +kernel
theorem dX4_init_40 : decode cX4_init 40 = .ok (.iconst 1, 1) := by decide +kernel
theorem dX4_init_41 : decode cX4_init 41 = .ok (.iconst 5, 1) := by decide +kernel
theorem dX4_init_42 : decode cX4_init 42 = .ok (.iastore, 1) := by decide +kernel
theorem dX4_init_43 : decode cX4_init 43 = .ok (.dup, 1) := by decide +kernel
theorem dX4_init_44 : decode cX4_init 44 = .ok (.iconst 2, 1) := by decide +kernel
theorem dX4_init_45 : decode cX4_init 45 = .ok (.bipush 9, 2) := by decide +kernel
theorem dX4_init_47 : decode cX4_init 47 = .ok (.iastore, 1) := by decide +kernel
theorem dX4_init_48 : decode cX4_init 48 = .ok (.dup, 1) := by decide +kernel
theorem dX4_init_49 : decode cX4_init 49 = .ok (.iconst 3, 1) := by decide +kernel
theorem dX4_init_50 : decode cX4_init 50 = .ok (.bipush 13, 2) := by decide +kernel
theorem dX4_init_52 : decode cX4_init 52 = .ok (.iastore, 1) := by decide +kernel
theorem dX4_init_53 : decode cX4_init 53 = .ok (.dup, 1) := by decide +kernel
theorem dX4_init_54 : decode cX4_init 54 = .ok (.iconst 4, 1) := by decide +kernel
theorem dX4_init_55 : decode cX4_init 55 = .ok (.bipush 17, 2) := by decide +kernel
theorem dX4_init_57 : decode cX4_init 57 = .ok (.iastore, 1) := by decide +kernel
theorem dX4_init_58 : decode cX4_init 58 = .ok (.dup, 1) := by decide +kernel
theorem dX4_init_59 : decode cX4_init 59 = .ok (.iconst 5, 1) := by decide +kernel
theorem dX4_init_60 : decode cX4_init 60 = .ok (.bipush 22, 2) := by decide +kernel
theorem dX4_init_62 : decode cX4_init 62 = .ok (.iastore, 1) := by decide +kernel
theorem dX4_init_63 : decode cX4_init 63 = .ok (.dup, 1) := by decide +kernel
theorem dX4_init_64 : decode cX4_init 64 = .ok (.bipush 6, 2) := by decide +kernel
theorem dX4_init_66 : decode cX4_init 66 = .ok (.bipush 27, 2) := by decide +kernel
theorem dX4_init_68 : decode cX4_init 68 = .ok (.iastore, 1) := by decide +kernel
theorem dX4_init_69 : decode cX4_init 69 = .ok (.dup, 1) := by decide +kernel
theorem dX4_init_70 : decode cX4_init 70 = .ok (.bipush 7, 2) := by decide +kernel
theorem dX4_init_72 : decode cX4_init 72 = .ok (.bipush 31, 2) := by decide +kernel
theorem dX4_init_74 : decode cX4_init 74 = .ok (.iastore, 1) := by decide +kernel
theorem dX4_init_75 : decode cX4_init 75 = .ok (.dup, 1) := by decide +kernel
theorem dX4_init_76 : decode cX4_init 76 = .ok (.bipush 8, 2) := by decide +kernel
theorem dX4_init_78 : decode cX4_init 78 = .ok (.bipush 35, 2) := by decide +kernel
theorem dX4_init_80 : decode cX4_init 80 = .ok (.iastore, 1) := by decide +kernel
theorem dX4_init_81 : decode cX4_init 81 = .ok (.putfield 19, 3) := by decide +kernel
theorem dX4_init_84 : decode cX4_init 84 = .ok (.aload_n 0, 1) := by decide +kernel
theorem dX4_init_85 : decode cX4_init 85 = .ok (.bipush 35, 2) := by decide +kernel
theorem dX4_init_87 : decode cX4_init 87 = .ok (.newarray .int, 2) := by decide +kernel
theorem dX4_init_89 : decode cX4_init 89 = .ok (.dup, 1) := by decide +kernel
theorem dX4_init_90 : decode cX4_init 90 = .ok (.iconst 0, 1) := by decide +kernel
theorem dX4_init_91 : decode cX4_init 91 = .ok (.bipush 112, 2) := by decide +kernel
theorem dX4_init_93 : decode cX4_init 93 = .ok (.iastore, 1) := by decide +kernel
theorem dX4_init_94 : decode cX4_init 94 = .ok (.dup, 1) := by decide +kernel
theorem dX4_init_95 : decode cX4_init 95 = .ok (.iconst 1, 1) := by decide +kernel
theorem dX4_init_96 : decode cX4_init 96 = .ok (.bipush 108, 2) := by decide +kernel
theorem dX4_init_98 : decode cX4_init 98 = .ok (.iastore, 1) := by decide +kernel
theorem dX4_init_99 : decode cX4_init 99 = .ok (.dup, 1) := by decide +kernel
theorem dX4_init_100 : decode cX4_init 100 = .ok (.iconst 2, 1) := by decide +kernel
theorem dX4_init_101 : decode cX4_init 101 = .ok (.bipush 97, 2) := by decide +kernel
theorem dX4_init_103 : decode cX4_init 103 = .ok (.iastore, 1) := by decide +kernel
theorem dX4_init_104 : decode cX4_init 104 = .ok (.dup, 1) := by decide +kernel
theorem dX4_init_105 : decode cX4_init 105 = .ok (.iconst 3, 1) := by decide +kernel
theorem dX4_init_106 : decode cX4_init 106 = .ok (.bipush 105, 2) := by decide +kernel
theorem dX4_init_108 : decode cX4_init 108 = .ok (.iastore, 1) := by decide +kernel
theorem dX4_init_109 : decode cX4_init 109 = .ok (.dup, 1) := by decide +kernel
theorem dX4_init_110 : decode cX4_init 110 = .ok (.iconst 4, 1) := by decide +kernel
theorem dX4_init_111 : decode cX4_init 111 = .ok (.bipush 110, 2) := by decide +kernel
theorem dX4_init_113 : decode cX4_init 113 = .ok (.iastore, 1) := by decide +kernel
theorem dX4_init_114 : decode cX4_init 114 = .ok (.dup, 1) := by decide +kernel
theorem dX4_init_115 : decode cX4_init 115 = .ok (.iconst 5, 1) := by decide +kernel
theorem dX4_init_116 : decode cX4_init 116 = .ok (.bipush 115, 2) := by decide +kernel
theorem dX4_init_118 : decode cX4_init 118 = .ok (.iastore, 1) := by decide +kernel
theorem dX4_init_119 : decode cX4_init 119 = .ok (.dup, 1) := by decide +kernel
theorem dX4_init_120 : decode cX4_init 120 = .ok (.bipush 6, 2) := by decide +kernel
theorem dX4_init_122 : decode cX4_init 122 = .ok (.bipush 108, 2) := by decide +kernel
theorem dX4_init_124 : decode cX4_init 124 = .ok (.iastore, 1) := by decide +kernel
theorem dX4_init_125 : decode cX4_init 125 = .ok (.dup, 1) := by decide +kernel
theorem dX4_init_126 : decode cX4_init 126 = .ok (.bipush 7, 2) := by decide +kernel
theorem dX4_init_128 : decode cX4_init 128 = .ok (.bipush 105, 2) := by decide +kernel
theorem dX4_init_130 : decode cX4_init 130 = .ok (.iastore, 1) := by decide +kernel
theorem dX4_init_131 : decode cX4_init 131 = .ok (.dup, 1) := by decide +kernel
theorem dX4_init_132 : decode cX4_init 132 = .ok (.bipush 8, 2) := by decide +kernel
theorem dX4_init_134 : decode cX4_init 134 = .ok (.bipush 112, 2) := by decide +kernel
theorem dX4_init_136 : decode cX4_init 136 = .ok (.iastore, 1) := by decide +kernel
theorem dX4_init_137 : decode cX4_init 137 = .ok (.dup, 1) := by decide +kernel
theorem dX4_init_138 : decode cX4_init 138 = .ok (.bipush 9, 2) := by decide +kernel
theorem dX4_init_140 : decode cX4_init 140 = .ok (.bipush 116, 2) := by decide +kernel
theorem dX4_init_142 : decode cX4_init 142 = .ok (.iastore, 1) := by decide +kernel
theorem dX4_init_143 : decode cX4_init 143 = .ok (.dup, 1) := by decide +kernel
theorem dX4_init_144 : decode cX4_init 144 = .ok (.bipush 10, 2) := by decide +kernel
theorem dX4_init_146 : decode cX4_init 146 = .ok (.bipush 97, 2) := by decide +kernel
theorem dX4_init_148 : decode cX4_init 148 = .ok (.iastore, 1) := by decide +kernel
theorem dX4_init_149 : decode cX4_init 149 = .ok (.dup, 1) := by decide +kernel
theorem dX4_init_150 : decode cX4_init 150 = .ok (.bipush 11, 2) := by decide +kernel
theorem dX4_init_152 : decode cX4_init 152 = .ok (.bipush 107, 2) := by decide +kernel
theorem dX4_init_154 : decode cX4_init 154 = .ok (.iastore, 1) := by decide +kernel
theorem dX4_init_155 : decode cX4_init 155 = .ok (.dup, 1) := by decide +kernel
theorem dX4_init_156 : decode cX4_init 156 = .ok (.bipush 12, 2) := by decide +kernel
theorem dX4_init_158 : decode cX4_init 158 = .ok (.bipush 101, 2) := by decide +kernel
theorem dX4_init_160 : decode cX4_init 160 = .ok (.iastore, 1) := by decide +kernel
theorem dX4_init_161 : decode cX4_init 161 = .ok (.dup, 1) := by decide +kernel
theorem dX4_init_162 : decode cX4_init 162 = .ok (.bipush 13, 2) := by decide +kernel
theorem dX4_init_164 : decode cX4_init 164 = .ok (.bipush 115, 2) := by decide +kernel
theorem dX4_init_166 : decode cX4_init 166 = .ok (.iastore, 1) := by decide +kernel
theorem dX4_init_167 : decode cX4_init 167 = .ok (.dup, 1) := by decide +kernel
theorem dX4_init_168 : decode cX4_init 168 = .ok (.bipush 14, 2) := by decide +kernel
theorem dX4_init_170 : decode cX4_init 170 = .ok (.bipush 111, 2) := by decide +kernel
theorem dX4_init_172 : decode cX4_init 172 = .ok (.iastore, 1) := by decide +kernel
theorem dX4_init_173 : decode cX4_init 173 = .ok (.dup, 1) := by decide +kernel
theorem dX4_init_174 : decode cX4_init 174 = .ok (.bipush 15, 2) := by decide +kernel
theorem dX4_init_176 : decode cX4_init 176 = .ok (.bipush 102, 2) := by decide +kernel
theorem dX4_init_178 : decode cX4_init 178 = .ok (.iastore, 1) := by decide +kernel
theorem dX4_init_179 : decode cX4_init 179 = .ok (.dup, 1) := by decide +kernel
theorem dX4_init_180 : decode cX4_init 180 = .ok (.bipush 16, 2) := by decide +kernel
theorem dX4_init_182 : decode cX4_init 182 = .ok (.bipush 116, 2) := by decide +kernel
theorem dX4_init_184 : decode cX4_init 184 = .ok (.iastore, 1) := by decide +kernel
theorem dX4_init_185 : decode cX4_init 185 = .ok (.dup, 1) := by decide +kernel
theorem dX4_init_186 : decode cX4_init 186 = .ok (.bipush 17, 2) := by decide +kernel
theorem dX4_init_188 : decode cX4_init 188 = .ok (.bipush 115, 2) := by decide +kernel
theorem dX4_init_190 : decode cX4_init 190 = .ok (.iastore, 1) := by decide +kernel
theorem dX4_init_191 : decode cX4_init 191 = .ok (.dup, 1) := by decide +kernel
theorem dX4_init_192 : decode cX4_init 192 = .ok (.bipush 18, 2) := by decide +kernel
theorem dX4_init_194 : decode cX4_init 194 = .ok (.bipush 104, 2) := by decide +kernel
theorem dX4_init_196 : decode cX4_init 196 = .ok (.iastore, 1) := by decide +kernel
theorem dX4_init_197 : decode cX4_init 197 = .ok (.dup, 1) := by decide +kernel
theorem dX4_init_198 : decode cX4_init 198 = .ok (.bipush 19, 2) := by decide +kernel
theorem dX4_init_200 : decode cX4_init 200 = .ok (.bipush 97, 2) := by decide +kernel
theorem dX4_init_202 : decode cX4_init 202 = .ok (.iastore, 1) := by decide +kernel
theorem dX4_init_203 : decode cX4_init 203 = .ok (.dup, 1) := by decide +kernel
theorem dX4_init_204 : decode cX4_init 204 = .ok (.bipush 20, 2) := by decide +kernel
theorem dX4_init_206 : decode cX4_init 206 = .ok (.bipush 102, 2) := by decide +kernel
theorem dX4_init_208 : decode cX4_init 208 = .ok (.iastore, 1) := by decide +kernel
theorem dX4_init_209 : decode cX4_init 209 = .ok (.dup, 1) := by decide +kernel
theorem dX4_init_210 : decode cX4_init 210 = .ok (.bipush 21, 2) := by decide +kernel
theorem dX4_init_212 : decode cX4_init 212 = .ok (.bipush 116, 2) := by decide +kernel
theorem dX4_init_214 : decode cX4_init 214 = .ok (.iastore, 1) := by decide +kernel
theorem dX4_init_215 : decode cX4_init 215 = .ok (.dup, 1) := by decide +kernel
theorem dX4_init_216 : decode cX4_init 216 = .ok (.bipush 22, 2) := by decide +kernel
theorem dX4_init_218 : decode cX4_init 218 = .ok (.bipush 100, 2) := by decide +kernel
theorem dX4_init_220 : decode cX4_init 220 = .ok (.iastore, 1) := by decide +kernel
theorem dX4_init_221 : decode cX4_init 221 = .ok (.dup, 1) := by decide +kernel
theorem dX4_init_222 : decode cX4_init 222 = .ok (.bipush 23, 2) := by decide +kernel
theorem dX4_init_224 : decode cX4_init 224 = .ok (.bipush 114, 2) := by decide +kernel
theorem dX4_init_226 : decode cX4_init 226 = .ok (.iastore, 1) := by decide +kernel
theorem dX4_init_227 : decode cX4_init 227 = .ok (.dup, 1) := by decide +kernel
theorem dX4_init_228 : decode cX4_init 228 = .ok (.bipush 24, 2) := by decide +kernel
theorem dX4_init_230 : decode cX4_init 230 = .ok (.bipush 105, 2) := by decide +kernel
theorem dX4_init_232 : decode cX4_init 232 = .ok (.iastore, 1) := by decide +kernel
theorem dX4_init_233 : decode cX4_init 233 = .ok (.dup, 1) := by decide +kernel
theorem dX4_init_234 : decode cX4_init 234 = .ok (.bipush 25, 2) := by decide +kernel
theorem dX4_init_236 : decode cX4_init 236 = .ok (.bipush 118, 2) := by decide +kernel
theorem dX4_init_238 : decode cX4_init 238 = .ok (.iastore, 1) := by decide +kernel
theorem dX4_init_239 : decode cX4_init 239 = .ok (.dup, 1) := by decide +kernel
theorem dX4_init_240 : decode cX4_init 240 = .ok (.bipush 26, 2) := by decide +kernel
theorem dX4_init_242 : decode cX4_init 242 = .ok (.bipush 101, 2) := by decide +kernel
theorem dX4_init_244 : decode cX4_init 244 = .ok (.iastore, 1) := by decide +kernel
theorem dX4_init_245 : decode cX4_init 245 = .ok (.dup, 1) := by decide +kernel
theorem dX4_init_246 : decode cX4_init 246 = .ok (.bipush 27, 2) := by decide +kernel
theorem dX4_init_248 : decode cX4_init 248 = .ok (.bipush 108, 2) := by decide +kernel
theorem dX4_init_250 : decode cX4_init 250 = .ok (.iastore, 1) := by decide +kernel
theorem dX4_init_251 : decode cX4_init 251 = .ok (.dup, 1) := by decide +kernel
theorem dX4_init_252 : decode cX4_init 252 = .ok (.bipush 28, 2) := by decide +kernel
theorem dX4_init_254 : decode cX4_init 254 = .ok (.bipush 111, 2) := by decide +kernel
theorem dX4_init_256 : decode cX4_init 256 = .ok (.iastore, 1) := by decide +kernel
theorem dX4_init_257 : decode cX4_init 257 = .ok (.dup, 1) := by decide +kernel
theorem dX4_init_258 : decode cX4_init 258 = .ok (.bipush 29, 2) := by decide +kernel
theorem dX4_init_260 : decode cX4_init 260 = .ok (.bipush 97, 2) := by decide +kernel
theorem dX4_init_262 : decode cX4_init 262 = .ok (.iastore, 1) := by decide +kernel
theorem dX4_init_263 : decode cX4_init 263 = .ok (.dup, 1) := by decide +kernel
theorem dX4_init_264 : decode cX4_init 264 = .ok (.bipush 30, 2) := by decide +kernel
theorem dX4_init_266 : decode cX4_init 266 = .ok (.bipush 100, 2) := by decide +kernel
theorem dX4_init_268 : decode cX4_init 268 = .ok (.iastore, 1) := by decide +kernel
theorem dX4_init_269 : decode cX4_init 269 = .ok (.dup, 1) := by decide +kernel
theorem dX4_init_270 : decode cX4_init 270 = .ok (.bipush 31, 2) := by decide +kernel
theorem dX4_init_272 : decode cX4_init 272 = .ok (.bipush 106, 2) := by decide +kernel
theorem dX4_init_274 : decode cX4_init 274 = .ok (.iastore, 1) := by decide +kernel
theorem dX4_init_275 : decode cX4_init 275 = .ok (.dup, 1) := by decide +kernel
theorem dX4_init_276 : decode cX4_init 276 = .ok (.bipush 32, 2) := by decide +kernel
theorem dX4_init_278 : decode cX4_init 278 = .ok (.bipush 111, 2) := by decide +kernel
theorem dX4_init_280 : decode cX4_init 280 = .ok (.iastore, 1) := by decide +kernel
theorem dX4_init_281 : decode cX4_init 281 = .ok (.dup, 1) := by decide +kernel
theorem dX4_init_282 : decode cX4_init 282 = .ok (.bipush 33, 2) := by decide +kernel
theorem dX4_init_284 : decode cX4_init 284 = .ok (.bipush 105, 2) := by decide +kernel
theorem dX4_init_286 : decode cX4_init 286 = .ok (.iastore, 1) := by decide +kernel
theorem dX4_init_287 : decode cX4_init 287 = .ok (.dup, 1) := by decide +kernel
theorem dX4_init_288 : decode cX4_init 288 = .ok (.bipush 34, 2) := by decide +kernel
theorem dX4_init_290 : decode cX4_init 290 = .ok (.bipush 110, 2) := by decide +kernel
theorem dX4_init_292 : decode cX4_init 292 = .ok (.iastore, 1) := by decide +kernel
theorem dX4_init_293 : decode cX4_init 293 = .ok (.putfield 22, 3) := by decide +kernel
theorem dX4_init_296 : decode cX4_init 296 = .ok (.aload_n 0, 1) := by decide +kernel
theorem dX4_init_297 : decode cX4_init 297 = .ok (.bipush (-4), 2) := by decide +kernel
theorem dX4_init_299 : decode cX4_init 299 = .ok (.putfield 25, 3) := by decide +kernel
theorem dX4_init_302 : decode cX4_init 302 = .ok (.aload_n 0, 1) := by decide +kernel
theorem dX4_init_303 : decode cX4_init 303 = .ok (.bipush (-4), 2) := by decide +kernel
theorem dX4_init_305 : decode cX4_init 305 = .ok (.putfield 29, 3) := by decide +kernel
theorem dX4_init_308 : decode cX4_init 308 = .ok (.aload_n 0, 1) := by decide +kernel
theorem dX4_init_309 : decode cX4_init 309 = .ok (.bipush 18, 2) := by decide +kernel
theorem dX4_init_311 : decode cX4_init 311 = .ok (.newarray .int, 2) := by decide +kernel
theorem dX4_init_313 : decode cX4_init 313 = .ok (.putfield 32, 3) := by decide +kernel
theorem dX4_init_316 : decode cX4_init 316 = .ok (.aload_n 0, 1) := by decide +kernel
theorem dX4_init_317 : decode cX4_init 317 = .ok (.sipush 410, 3) := by decide +kernel
theorem dX4_init_320 : decode cX4_init 320 = .ok (.newarray .int, 2) := by decide +kernel
theorem dX4_init_322 : decode cX4_init 322 = .ok (.putfield 35, 3) := by decide +kernel
theorem dX4_init_325 : decode cX4_init 325 = .ok (.aload_n 0, 1) := by decide +kernel
theorem dX4_init_326 : decode cX4_init 326 = .ok (.iconst 2, 1) := by decide +kernel
theorem dX4_init_327 : decode cX4_init 327 = .ok (.newarray .boolean, 2) := by decide +kernel
theorem dX4_init_329 : decode cX4_init 329 = .ok (.putfield 38, 3) := by decide +kernel
theorem dX4_init_332 : decode cX4_init 332 = .ok (.aload_n 0, 1) := by decide +kernel
theorem dX4_init_333 : decode cX4_init 333 = .ok (.iconst 4, 1) := by decide +kernel
theorem dX4_init_334 : decode cX4_init 334 = .ok (.newarray .int, 2) := by decide +kernel
theorem dX4_init_336 : decode cX4_init 336 = .ok (.dup, 1) := by decide +kernel
theorem dX4_init_337 : decode cX4_init 337 = .ok (.iconst 0, 1) := by decide +kernel
theorem dX4_init_338 : decode cX4_init 338 = .ok (.bipush (-4), 2) := by decide +kernel
theorem dX4_init_340 : decode cX4_init 340 = .ok (.iastore, 1) := by decide +kernel
theorem dX4_init_341 : decode cX4_init 341 = .ok (.dup, 1) := by decide +kernel
theorem dX4_init_342 : decode cX4_init 342 = .ok (.iconst 1, 1) := by decide +kernel
theorem dX4_init_343 : decode cX4_init 343 = .ok (.bipush (-4), 2) := by decide +kernel
theorem dX4_init_345 : decode cX4_init 345 = .ok (.iastore, 1) := by decide +kernel
theorem dX4_init_346 : decode cX4_init 346 = .ok (.dup, 1) := by decide +kernel
theorem dX4_init_347 : decode cX4_init 347 = .ok (.iconst 2, 1) := by decide +kernel
theorem dX4_init_348 : decode cX4_init 348 = .ok (.bipush (-4), 2) := by decide +kernel
theorem dX4_init_350 : decode cX4_init 350 = .ok (.iastore, 1) := by decide +kernel
theorem dX4_init_351 : decode cX4_init 351 = .ok (.dup, 1) := by decide +kernel
theorem dX4_init_352 : decode cX4_init 352 = .ok (.iconst 3, 1) := by decide +kernel
theorem dX4_init_353 : decode cX4_init 353 = .ok (.bipush (-4), 2) := by decide +kernel
theorem dX4_init_355 : decode cX4_init 355 = .ok (.iastore, 1) := by decide +kernel
theorem dX4_init_356 : decode cX4_init 356 = .ok (.putfield 42, 3) := by decide +kernel
theorem dX4_init_359 : decode cX4_init 359 = .ok (.aload_n 0, 1) := by decide +kernel
theorem dX4_init_360 : decode cX4_init 360 = .ok (.iconst 4, 1) := by decide +kernel
theorem dX4_init_361 : decode cX4_init 361 = .ok (.newarray .int, 2) := by decide +kernel
theorem dX4_init_363 : decode cX4_init 363 = .ok (.putfield 45, 3) := by decide +kernel
theorem dX4_init_366 : decode cX4_init 366 = .ok (.aload_n 0, 1) := by decide +kernel
theorem dX4_init_367 : decode cX4_init 367 = .ok (.sipush 160, 3) := by decide +kernel
theorem dX4_init_370 : decode cX4_init 370 = .ok (.newarray .int, 2) := by decide +kernel
theorem dX4_init_372 : decode cX4_init 372 = .ok (.putfield 48, 3) := by decide +kernel
theorem dX4_init_375 : decode cX4_init 375 = .ok (.return_, 1) := by decide +kernel
theorem dX4_in_0 : decode cX4_in 0 = .ok (.lload_n 0, 1) := by decide +kernel
theorem dX4_in_1 : decode cX4_in 1 = .ok (.lload_n 2, 1) := by decide +kernel
theorem dX4_in_2 : decode cX4_in 2 = .ok (.lcmp, 1) := by decide +kernel
theorem dX4_in_3 : decode cX4_in 3 = .ok (.ifCond .lt 14, 3) := by decide +kernel
theorem dX4_in_6 : decode cX4_in 6 = .ok (.lload_n 0, 1) := by decide +kernel
theorem dX4_in_7 : decode cX4_in 7 = .ok (.lload 4, 2) := by decide +kernel
theorem dX4_in_9 : decode cX4_in 9 = .ok (.lcmp, 1) := by decide +kernel
theorem dX4_in_10 : decode cX4_in 10 = .ok (.ifCond .gt 7, 3) := by decide +kernel
theorem dX4_in_13 : decode cX4_in 13 = .ok (.iconst 1, 1) := by decide +kernel
theorem dX4_in_14 : decode cX4_in 14 = .ok (.goto 4, 3) := by decide +kernel
theorem dX4_in_17 : decode cX4_in 17 = .ok (.iconst 0, 1) := by decide +kernel
theorem dX4_in_18 : decode cX4_in 18 = .ok (.ireturn, 1) := by decide +kernel
theorem dX4_feed_0 : decode cX4_feed 0 = .ok (.iload_n 1, 1) := by decide +kernel
theorem dX4_feed_1 : decode cX4_feed 1 = .ok (.i2l, 1) := by decide +kernel
theorem dX4_feed_2 : decode cX4_feed 2 = .ok (.lconst 0, 1) := by decide +kernel
theorem dX4_feed_3 : decode cX4_feed 3 = .ok (.ldc2_w 51, 3) := by decide +kernel
theorem dX4_feed_6 : decode cX4_feed 6 = .ok (.invokestatic 53, 3) := by decide +kernel
theorem dX4_feed_9 : decode cX4_feed 9 = .ok (.ifCond .ne 5, 3) := by decide +kernel
theorem dX4_feed_12 : decode cX4_feed 12 = .ok (.iconst (-1), 1) := by decide +kernel
theorem dX4_feed_13 : decode cX4_feed 13 = .ok (.ireturn, 1) := by decide +kernel
theorem dX4_feed_14 : decode cX4_feed 14 = .ok (.aload_n 0, 1) := by decide +kernel
theorem dX4_feed_15 : decode cX4_feed 15 = .ok (.getfield 57, 3) := by decide +kernel
theorem dX4_feed_18 : decode cX4_feed 18 = .ok (.sipush 160, 3) := by decide +kernel
theorem dX4_feed_21 : decode cX4_feed 21 = .ok (.if_icmp .ne 6, 3) := by decide +kernel
theorem dX4_feed_24 : decode cX4_feed 24 = .ok (.bipush (-3), 2) := by decide +kernel
theorem dX4_feed_26 : decode cX4_feed 26 = .ok (.ireturn, 1) := by decide +kernel
theorem dX4_feed_27 : decode cX4_feed 27 = .ok (.aload_n 0, 1) := by decide +kernel
theorem dX4_feed_28 : decode cX4_feed 28 = .ok (.getfield 16, 3) := by decide +kernel
theorem dX4_feed_31 : decode cX4_feed 31 = .ok (.aload_n 0, 1) := by decide +kernel
theorem dX4_feed_32 : decode cX4_feed 32 = .ok (.getfield 57, 3) := by decide +kernel
theorem dX4_feed_35 : decode cX4_feed 35 = .ok (.iload_n 1, 1) := by decide +kernel
theorem dX4_feed_36 : decode cX4_feed 36 = .ok (.iastore, 1) := by decide +kernel
theorem dX4_feed_37 : decode cX4_feed 37 = .ok (.aload_n 0, 1) := by decide +kernel
theorem dX4_feed_38 : decode cX4_feed 38 = .ok (.dup, 1) := by decide +kernel
theorem dX4_feed_39 : decode cX4_feed 39 = .ok (.getfield 57, 3) := by decide +kernel
theorem dX4_feed_42 : decode cX4_feed 42 = .ok (.iconst 1, 1) := by decide +kernel
theorem dX4_feed_43 : decode cX4_feed 43 = .ok (.iadd, 1) := by decide +kernel
theorem dX4_feed_44 : decode cX4_feed 44 = .ok (.putfield 57, 3) := by decide +kernel
theorem dX4_feed_47 : decode cX4_feed 47 = .ok (.aload_n 0, 1) := by decide +kernel
theorem dX4_feed_48 : decode cX4_feed 48 = .ok (.getfield 57, 3) := by decide +kernel
theorem dX4_feed_51 : decode cX4_feed 51 = .ok (.ireturn, 1) := by decide +kernel
theorem dX4_end_0 : decode cX4_end 0 = .ok (.iload_n 1, 1) := by decide +kernel
theorem dX4_end_1 : decode cX4_end 1 = .ok (.i2l, 1) := by decide +kernel
theorem dX4_end_2 : decode cX4_end 2 = .ok (.lconst 0, 1) := by decide +kernel
theorem dX4_end_3 : decode cX4_end 3 = .ok (.aload_n 0, 1) := by decide +kernel
theorem dX4_end_4 : decode cX4_end 4 = .ok (.getfield 57, 3) := by decide +kernel
theorem dX4_end_7 : decode cX4_end 7 = .ok (.i2l, 1) := by decide +kernel
theorem dX4_end_8 : decode cX4_end 8 = .ok (.invokestatic 53, 3) := by decide +kernel
theorem dX4_end_11 : decode cX4_end 11 = .ok (.ifCond .ne 5, 3) := by decide +kernel
theorem dX4_end_14 : decode cX4_end 14 = .ok (.iconst (-1), 1) := by decide +kernel
theorem dX4_end_15 : decode cX4_end 15 = .ok (.ireturn, 1) := by decide +kernel
theorem dX4_end_16 : decode cX4_end 16 = .ok (.aload_n 0, 1) := by decide +kernel
theorem dX4_end_17 : decode cX4_end 17 = .ok (.getfield 57, 3) := by decide +kernel
theorem dX4_end_20 : decode cX4_end 20 = .ok (.istore_n 2, 1) := by decide +kernel
theorem dX4_end_21 : decode cX4_end 21 = .ok (.aload_n 0, 1) := by decide +kernel
theorem dX4_end_22 : decode cX4_end 22 = .ok (.iload_n 1, 1) := by decide +kernel
theorem dX4_end_23 : decode cX4_end 23 = .ok (.putfield 57, 3) := by decide +kernel
theorem dX4_end_26 : decode cX4_end 26 = .ok (.iload_n 2, 1) := by decide +kernel
theorem dX4_end_27 : decode cX4_end 27 = .ok (.ireturn, 1) := by decide +kernel
theorem dX4_byteAt_0 : decode cX4_byteAt 0 = .ok (.iload_n 1, 1) := by decide +kernel
theorem dX4_byteAt_1 : decode cX4_byteAt 1 = .ok (.aload_n 0, 1) := by decide +kernel
theorem dX4_byteAt_2 : decode cX4_byteAt 2 = .ok (.getfield 57, 3) := by decide +kernel
theorem dX4_byteAt_5 : decode cX4_byteAt 5 = .ok (.if_icmp .ge 12, 3) := by decide +kernel
theorem dX4_byteAt_8 : decode cX4_byteAt 8 = .ok (.aload_n 0, 1) := by decide +kernel
theorem dX4_byteAt_9 : decode cX4_byteAt 9 = .ok (.getfield 16, 3) := by decide +kernel
theorem dX4_byteAt_12 : decode cX4_byteAt 12 = .ok (.iload_n 1, 1) := by decide +kernel
theorem dX4_byteAt_13 : decode cX4_byteAt 13 = .ok (.iaload, 1) := by decide +kernel
theorem dX4_byteAt_14 : decode cX4_byteAt 14 = .ok (.goto 5, 3) := by decide +kernel
theorem dX4_byteAt_17 : decode cX4_byteAt 17 = .ok (.bipush (-4), 2) := by decide +kernel
theorem dX4_byteAt_19 : decode cX4_byteAt 19 = .ok (.ireturn, 1) := by decide +kernel
theorem dX4_fails_0 : decode cX4_fails 0 = .ok (.aload_n 0, 1) := by decide +kernel
theorem dX4_fails_1 : decode cX4_fails 1 = .ok (.getfield 60, 3) := by decide +kernel
theorem dX4_fails_4 : decode cX4_fails 4 = .ok (.ifCond .ne 16, 3) := by decide +kernel
theorem dX4_fails_7 : decode cX4_fails 7 = .ok (.aload_n 0, 1) := by decide +kernel
theorem dX4_fails_8 : decode cX4_fails 8 = .ok (.iload_n 1, 1) := by decide +kernel
theorem dX4_fails_9 : decode cX4_fails 9 = .ok (.putfield 60, 3) := by decide +kernel
theorem dX4_fails_12 : decode cX4_fails 12 = .ok (.aload_n 0, 1) := by decide +kernel
theorem dX4_fails_13 : decode cX4_fails 13 = .ok (.aload_n 0, 1) := by decide +kernel
theorem dX4_fails_14 : decode cX4_fails 14 = .ok (.getfield 63, 3) := by decide +kernel
theorem dX4_fails_17 : decode cX4_fails 17 = .ok (.putfield 66, 3) := by decide +kernel
theorem dX4_fails_20 : decode cX4_fails 20 = .ok (.return_, 1) := by decide +kernel
theorem dX4_nameHere_0 : decode cX4_nameHere 0 = .ok (.iconst 0, 1) := by decide +kernel
theorem dX4_nameHere_1 : decode cX4_nameHere 1 = .ok (.istore_n 1, 1) := by decide +kernel
theorem dX4_nameHere_2 : decode cX4_nameHere 2 = .ok (.iload_n 1, 1) := by decide +kernel
theorem dX4_nameHere_3 : decode cX4_nameHere 3 = .ok (.bipush 8, 2) := by decide +kernel
theorem dX4_nameHere_5 : decode cX4_nameHere 5 = .ok (.if_icmp .ge 113, 3) := by decide +kernel
theorem dX4_nameHere_8 : decode cX4_nameHere 8 = .ok (.aload_n 0, 1) := by decide +kernel
theorem dX4_nameHere_9 : decode cX4_nameHere 9 = .ok (.getfield 69, 3) := by decide +kernel
theorem dX4_nameHere_12 : decode cX4_nameHere 12 = .ok (.iconst 1, 1) := by decide +kernel
theorem dX4_nameHere_13 : decode cX4_nameHere 13 = .ok (.if_icmp .ne 105, 3) := by decide +kernel
theorem dX4_nameHere_16 : decode cX4_nameHere 16 = .ok (.aload_n 0, 1) := by decide +kernel
theorem dX4_nameHere_17 : decode cX4_nameHere 17 = .ok (.getfield 72, 3) := by decide +kernel
theorem dX4_nameHere_20 : decode cX4_nameHere 20 = .ok (.aload_n 0, 1) := by decide +kernel
theorem dX4_nameHere_21 : decode cX4_nameHere 21 = .ok (.getfield 63, 3) := by decide +kernel
theorem dX4_nameHere_24 : decode cX4_nameHere 24 = .ok (.isub, 1) := by decide +kernel
theorem dX4_nameHere_25 : decode cX4_nameHere 25 = .ok (.aload_n 0, 1) := by decide +kernel
theorem dX4_nameHere_26 : decode cX4_nameHere 26 = .ok (.getfield 19, 3) := by decide +kernel
theorem dX4_nameHere_29 : decode cX4_nameHere 29 = .ok (.iload_n 1, 1) := by decide +kernel
theorem dX4_nameHere_30 : decode cX4_nameHere 30 = .ok (.iconst 1, 1) := by decide +kernel
theorem dX4_nameHere_31 : decode cX4_nameHere 31 = .ok (.iadd, 1) := by decide +kernel
theorem dX4_nameHere_32 : decode cX4_nameHere 32 = .ok (.iaload, 1) := by decide +kernel
theorem dX4_nameHere_33 : decode cX4_nameHere 33 = .ok (.aload_n 0, 1) := by decide +kernel
theorem dX4_nameHere_34 : decode cX4_nameHere 34 = .ok (.getfield 19, 3) := by decide +kernel
theorem dX4_nameHere_37 : decode cX4_nameHere 37 = .ok (.iload_n 1, 1) := by decide +kernel
theorem dX4_nameHere_38 : decode cX4_nameHere 38 = .ok (.iaload, 1) := by decide +kernel
theorem dX4_nameHere_39 : decode cX4_nameHere 39 = .ok (.isub, 1) := by decide +kernel
theorem dX4_nameHere_40 : decode cX4_nameHere 40 = .ok (.if_icmp .ne 7, 3) := by decide +kernel
theorem dX4_nameHere_43 : decode cX4_nameHere 43 = .ok (.iconst 1, 1) := by decide +kernel
theorem dX4_nameHere_44 : decode cX4_nameHere 44 = .ok (.goto 4, 3) := by decide +kernel
theorem dX4_nameHere_47 : decode cX4_nameHere 47 = .ok (.iconst 0, 1) := by decide +kernel
theorem dX4_nameHere_48 : decode cX4_nameHere 48 = .ok (.istore_n 2, 1) := by decide +kernel
theorem dX4_nameHere_49 : decode cX4_nameHere 49 = .ok (.iconst 0, 1) := by decide +kernel
theorem dX4_nameHere_50 : decode cX4_nameHere 50 = .ok (.istore_n 3, 1) := by decide +kernel
theorem dX4_nameHere_51 : decode cX4_nameHere 51 = .ok (.iload_n 2, 1) := by decide +kernel
theorem dX4_nameHere_52 : decode cX4_nameHere 52 = .ok (.ifCond .eq 54, 3) := by decide +kernel
theorem dX4_nameHere_55 : decode cX4_nameHere 55 = .ok (.iload_n 3, 1) := by decide +kernel
theorem dX4_nameHere_56 : decode cX4_nameHere 56 = .ok (.aload_n 0, 1) := by decide +kernel
theorem dX4_nameHere_57 : decode cX4_nameHere 57 = .ok (.getfield 72, 3) := by decide +kernel
theorem dX4_nameHere_60 : decode cX4_nameHere 60 = .ok (.aload_n 0, 1) := by decide +kernel
theorem dX4_nameHere_61 : decode cX4_nameHere 61 = .ok (.getfield 63, 3) := by decide +kernel
theorem dX4_nameHere_64 : decode cX4_nameHere 64 = .ok (.isub, 1) := by decide +kernel
theorem dX4_nameHere_65 : decode cX4_nameHere 65 = .ok (.if_icmp .ge 41, 3) := by decide +kernel
theorem dX4_nameHere_68 : decode cX4_nameHere 68 = .ok (.aload_n 0, 1) := by decide +kernel
theorem dX4_nameHere_69 : decode cX4_nameHere 69 = .ok (.aload_n 0, 1) := by decide +kernel
theorem dX4_nameHere_70 : decode cX4_nameHere 70 = .ok (.getfield 63, 3) := by decide +kernel
theorem dX4_nameHere_73 : decode cX4_nameHere 73 = .ok (.iload_n 3, 1) := by decide +kernel
theorem dX4_nameHere_74 : decode cX4_nameHere 74 = .ok (.iadd, 1) := by decide +kernel
theorem dX4_nameHere_75 : decode cX4_nameHere 75 = .ok (.invokevirtual 75, 3) := by decide +kernel
theorem dX4_nameHere_78 : decode cX4_nameHere 78 = .ok (.aload_n 0, 1) := by decide +kernel
theorem dX4_nameHere_79 : decode cX4_nameHere 79 = .ok (.getfield 22, 3) := by decide +kernel
theorem dX4_nameHere_82 : decode cX4_nameHere 82 = .ok (.aload_n 0, 1) := by decide +kernel
theorem dX4_nameHere_83 : decode cX4_nameHere 83 = .ok (.getfield 19, 3) := by decide +kernel
theorem dX4_nameHere_86 : decode cX4_nameHere 86 = .ok (.iload_n 1, 1) := by decide +kernel
theorem dX4_nameHere_87 : decode cX4_nameHere 87 = .ok (.iaload, 1) := by decide +kernel
theorem dX4_nameHere_88 : decode cX4_nameHere 88 = .ok (.iload_n 3, 1) := by decide +kernel
theorem dX4_nameHere_89 : decode cX4_nameHere 89 = .ok (.iadd, 1) := by decide +kernel
theorem dX4_nameHere_90 : decode cX4_nameHere 90 = .ok (.iaload, 1) := by decide +kernel
theorem dX4_nameHere_91 : decode cX4_nameHere 91 = .ok (.if_icmp .ne 7, 3) := by decide +kernel
theorem dX4_nameHere_94 : decode cX4_nameHere 94 = .ok (.iconst 1, 1) := by decide +kernel
theorem dX4_nameHere_95 : decode cX4_nameHere 95 = .ok (.goto 4, 3) := by decide +kernel
theorem dX4_nameHere_98 : decode cX4_nameHere 98 = .ok (.iconst 0, 1) := by decide +kernel
theorem dX4_nameHere_99 : decode cX4_nameHere 99 = .ok (.istore_n 2, 1) := by decide +kernel
theorem dX4_nameHere_100 : decode cX4_nameHere 100 = .ok (.iinc 3 1, 3) := by decide +kernel
theorem dX4_nameHere_103 : decode cX4_nameHere 103 = .ok (.goto (-52), 3) := by decide +kernel
theorem dX4_nameHere_106 : decode cX4_nameHere 106 = .ok (.iload_n 2, 1) := by decide +kernel
theorem dX4_nameHere_107 : decode cX4_nameHere 107 = .ok (.ifCond .eq 5, 3) := by decide +kernel
theorem dX4_nameHere_110 : decode cX4_nameHere 110 = .ok (.iload_n 1, 1) := by decide +kernel
theorem dX4_nameHere_111 : decode cX4_nameHere 111 = .ok (.ireturn, 1) := by decide +kernel
theorem dX4_nameHere_112 : decode cX4_nameHere 112 = .ok (.iinc 1 1, 3) := by decide +kernel
theorem dX4_nameHere_115 : decode cX4_nameHere 115 = .ok (.goto (-113), 3) := by decide +kernel
theorem dX4_nameHere_118 : decode cX4_nameHere 118 = .ok (.bipush (-4), 2) := by decide +kernel
theorem dX4_nameHere_120 : decode cX4_nameHere 120 = .ok (.ireturn, 1) := by decide +kernel
theorem dX4_readsOn_0 : decode cX4_readsOn 0 = .ok (.aload_n 0, 1) := by decide +kernel
theorem dX4_readsOn_1 : decode cX4_readsOn 1 = .ok (.getfield 60, 3) := by decide +kernel
theorem dX4_readsOn_4 : decode cX4_readsOn 4 = .ok (.ifCond .le 4, 3) := by decide +kernel
theorem dX4_readsOn_7 : decode cX4_readsOn 7 = .ok (.return_, 1) := by decide +kernel
theorem dX4_readsOn_8 : decode cX4_readsOn 8 = .ok (.aload_n 0, 1) := by decide +kernel
theorem dX4_readsOn_9 : decode cX4_readsOn 9 = .ok (.aload_n 0, 1) := by decide +kernel
theorem dX4_readsOn_10 : decode cX4_readsOn 10 = .ok (.getfield 72, 3) := by decide +kernel
theorem dX4_readsOn_13 : decode cX4_readsOn 13 = .ok (.invokevirtual 75, 3) := by decide +kernel
theorem dX4_readsOn_16 : decode cX4_readsOn 16 = .ok (.bipush 32, 2) := by decide +kernel
theorem dX4_readsOn_18 : decode cX4_readsOn 18 = .ok (.if_icmp .ne 16, 3) := by decide +kernel
theorem dX4_readsOn_21 : decode cX4_readsOn 21 = .ok (.aload_n 0, 1) := by decide +kernel
theorem dX4_readsOn_22 : decode cX4_readsOn 22 = .ok (.dup, 1) := by decide +kernel
theorem dX4_readsOn_23 : decode cX4_readsOn 23 = .ok (.getfield 72, 3) := by decide +kernel
theorem dX4_readsOn_26 : decode cX4_readsOn 26 = .ok (.iconst 1, 1) := by decide +kernel
theorem dX4_readsOn_27 : decode cX4_readsOn 27 = .ok (.iadd, 1) := by decide +kernel
theorem dX4_readsOn_28 : decode cX4_readsOn 28 = .ok (.putfield 72, 3) := by decide +kernel
theorem dX4_readsOn_31 : decode cX4_readsOn 31 = .ok (.goto (-23), 3) := by decide +kernel
theorem dX4_readsOn_34 : decode cX4_readsOn 34 = .ok (.aload_n 0, 1) := by decide +kernel
theorem dX4_readsOn_35 : decode cX4_readsOn 35 = .ok (.aload_n 0, 1) := by decide +kernel
theorem dX4_readsOn_36 : decode cX4_readsOn 36 = .ok (.getfield 72, 3) := by decide +kernel
theorem dX4_readsOn_39 : decode cX4_readsOn 39 = .ok (.putfield 63, 3) := by decide +kernel
theorem dX4_readsOn_42 : decode cX4_readsOn 42 = .ok (.aload_n 0, 1) := by decide +kernel
theorem dX4_readsOn_43 : decode cX4_readsOn 43 = .ok (.aload_n 0, 1) := by decide +kernel
theorem dX4_readsOn_44 : decode cX4_readsOn 44 = .ok (.getfield 72, 3) := by decide +kernel
theorem dX4_readsOn_47 : decode cX4_readsOn 47 = .ok (.invokevirtual 75, 3) := by decide +kernel
theorem dX4_readsOn_50 : decode cX4_readsOn 50 = .ok (.istore_n 1, 1) := by decide +kernel
theorem dX4_readsOn_51 : decode cX4_readsOn 51 = .ok (.aload_n 0, 1) := by decide +kernel
theorem dX4_readsOn_52 : decode cX4_readsOn 52 = .ok (.iconst 0, 1) := by decide +kernel
theorem dX4_readsOn_53 : decode cX4_readsOn 53 = .ok (.putfield 79, 3) := by decide +kernel
theorem dX4_readsOn_56 : decode cX4_readsOn 56 = .ok (.iload_n 1, 1) := by decide +kernel
theorem dX4_readsOn_57 : decode cX4_readsOn 57 = .ok (.bipush (-4), 2) := by decide +kernel
theorem dX4_readsOn_59 : decode cX4_readsOn 59 = .ok (.if_icmp .ne 11, 3) := by decide +kernel
theorem dX4_readsOn_62 : decode cX4_readsOn 62 = .ok (.aload_n 0, 1) := by decide +kernel
theorem dX4_readsOn_63 : decode cX4_readsOn 63 = .ok (.iconst 0, 1) := by decide +kernel
theorem dX4_readsOn_64 : decode cX4_readsOn 64 = .ok (.putfield 69, 3) := by decide +kernel
theorem dX4_readsOn_67 : decode cX4_readsOn 67 = .ok (.goto 202, 3) := by decide +kernel
theorem dX4_readsOn_70 : decode cX4_readsOn 70 = .ok (.iload_n 1, 1) := by decide +kernel
theorem dX4_readsOn_71 : decode cX4_readsOn 71 = .ok (.i2l, 1) := by decide +kernel
theorem dX4_readsOn_72 : decode cX4_readsOn 72 = .ok (.ldc2_w 82, 3) := by decide +kernel
theorem dX4_readsOn_75 : decode cX4_readsOn 75 = .ok (.ldc2_w 84, 3) := by decide +kernel
theorem dX4_readsOn_78 : decode cX4_readsOn 78 = .ok (.invokestatic 53, 3) := by decide +kernel
theorem dX4_readsOn_81 : decode cX4_readsOn 81 = .ok (.ifCond .eq 45, 3) := by decide +kernel
theorem dX4_readsOn_84 : decode cX4_readsOn 84 = .ok (.aload_n 0, 1) := by decide +kernel
theorem dX4_readsOn_85 : decode cX4_readsOn 85 = .ok (.aload_n 0, 1) := by decide +kernel
theorem dX4_readsOn_86 : decode cX4_readsOn 86 = .ok (.getfield 72, 3) := by decide +kernel
theorem dX4_readsOn_89 : decode cX4_readsOn 89 = .ok (.invokevirtual 75, 3) := by decide +kernel
theorem dX4_readsOn_92 : decode cX4_readsOn 92 = .ok (.i2l, 1) := by decide +kernel
theorem dX4_readsOn_93 : decode cX4_readsOn 93 = .ok (.ldc2_w 82, 3) := by decide +kernel
theorem dX4_readsOn_96 : decode cX4_readsOn 96 = .ok (.ldc2_w 84, 3) := by decide +kernel
theorem dX4_readsOn_99 : decode cX4_readsOn 99 = .ok (.invokestatic 53, 3) := by decide +kernel
theorem dX4_readsOn_102 : decode cX4_readsOn 102 = .ok (.ifCond .eq 16, 3) := by decide +kernel
theorem dX4_readsOn_105 : decode cX4_readsOn 105 = .ok (.aload_n 0, 1) := by decide +kernel
theorem dX4_readsOn_106 : decode cX4_readsOn 106 = .ok (.dup, 1) := by decide +kernel
theorem dX4_readsOn_107 : decode cX4_readsOn 107 = .ok (.getfield 72, 3) := by decide +kernel
theorem dX4_readsOn_110 : decode cX4_readsOn 110 = .ok (.iconst 1, 1) := by decide +kernel
theorem dX4_readsOn_111 : decode cX4_readsOn 111 = .ok (.iadd, 1) := by decide +kernel
theorem dX4_readsOn_112 : decode cX4_readsOn 112 = .ok (.putfield 72, 3) := by decide +kernel
theorem dX4_readsOn_115 : decode cX4_readsOn 115 = .ok (.goto (-31), 3) := by decide +kernel
theorem dX4_readsOn_118 : decode cX4_readsOn 118 = .ok (.aload_n 0, 1) := by decide +kernel
theorem dX4_readsOn_119 : decode cX4_readsOn 119 = .ok (.iconst 1, 1) := by decide +kernel
theorem dX4_readsOn_120 : decode cX4_readsOn 120 = .ok (.putfield 69, 3) := by decide +kernel
theorem dX4_readsOn_123 : decode cX4_readsOn 123 = .ok (.goto 146, 3) := by decide +kernel
theorem dX4_readsOn_126 : decode cX4_readsOn 126 = .ok (.iload_n 1, 1) := by decide +kernel
theorem dX4_readsOn_127 : decode cX4_readsOn 127 = .ok (.i2l, 1) := by decide +kernel
theorem dX4_readsOn_128 : decode cX4_readsOn 128 = .ok (.ldc2_w 86, 3) := by decide +kernel
theorem dX4_readsOn_131 : decode cX4_readsOn 131 = .ok (.ldc2_w 88, 3) := by decide +kernel
theorem dX4_readsOn_134 : decode cX4_readsOn 134 = .ok (.invokestatic 53, 3) := by decide +kernel
theorem dX4_readsOn_137 : decode cX4_readsOn 137 = .ok (.ifCond .eq 106, 3) := by decide +kernel
theorem dX4_readsOn_140 : decode cX4_readsOn 140 = .ok (.aload_n 0, 1) := by decide +kernel
theorem dX4_readsOn_141 : decode cX4_readsOn 141 = .ok (.aload_n 0, 1) := by decide +kernel
theorem dX4_readsOn_142 : decode cX4_readsOn 142 = .ok (.getfield 72, 3) := by decide +kernel
theorem dX4_readsOn_145 : decode cX4_readsOn 145 = .ok (.invokevirtual 75, 3) := by decide +kernel
theorem dX4_readsOn_148 : decode cX4_readsOn 148 = .ok (.i2l, 1) := by decide +kernel
theorem dX4_readsOn_149 : decode cX4_readsOn 149 = .ok (.ldc2_w 86, 3) := by decide +kernel
theorem dX4_readsOn_152 : decode cX4_readsOn 152 = .ok (.ldc2_w 88, 3) := by decide +kernel
theorem dX4_readsOn_155 : decode cX4_readsOn 155 = .ok (.invokestatic 53, 3) := by decide +kernel
theorem dX4_readsOn_158 : decode cX4_readsOn 158 = .ok (.ifCond .eq 59, 3) := by decide +kernel
theorem dX4_readsOn_161 : decode cX4_readsOn 161 = .ok (.aload_n 0, 1) := by decide +kernel
theorem dX4_readsOn_162 : decode cX4_readsOn 162 = .ok (.aload_n 0, 1) := by decide +kernel
theorem dX4_readsOn_163 : decode cX4_readsOn 163 = .ok (.getfield 72, 3) := by decide +kernel
theorem dX4_readsOn_166 : decode cX4_readsOn 166 = .ok (.aload_n 0, 1) := by decide +kernel
theorem dX4_readsOn_167 : decode cX4_readsOn 167 = .ok (.getfield 63, 3) := by decide +kernel
theorem dX4_readsOn_170 : decode cX4_readsOn 170 = .ok (.isub, 1) := by decide +kernel
theorem dX4_readsOn_171 : decode cX4_readsOn 171 = .ok (.iconst 2, 1) := by decide +kernel
theorem dX4_readsOn_172 : decode cX4_readsOn 172 = .ok (.if_icmp .ge 25, 3) := by decide +kernel
theorem dX4_readsOn_175 : decode cX4_readsOn 175 = .ok (.bipush 10, 2) := by decide +kernel
theorem dX4_readsOn_177 : decode cX4_readsOn 177 = .ok (.aload_n 0, 1) := by decide +kernel
theorem dX4_readsOn_178 : decode cX4_readsOn 178 = .ok (.getfield 79, 3) := by decide +kernel
theorem dX4_readsOn_181 : decode cX4_readsOn 181 = .ok (.imul, 1) := by decide +kernel
theorem dX4_readsOn_182 : decode cX4_readsOn 182 = .ok (.aload_n 0, 1) := by decide +kernel
theorem dX4_readsOn_183 : decode cX4_readsOn 183 = .ok (.aload_n 0, 1) := by decide +kernel
theorem dX4_readsOn_184 : decode cX4_readsOn 184 = .ok (.getfield 72, 3) := by decide +kernel
theorem dX4_readsOn_187 : decode cX4_readsOn 187 = .ok (.invokevirtual 75, 3) := by decide +kernel
theorem dX4_readsOn_190 : decode cX4_readsOn 190 = .ok (.iadd, 1) := by decide +kernel
theorem dX4_readsOn_191 : decode cX4_readsOn 191 = .ok (.bipush 48, 2) := by decide +kernel
theorem dX4_readsOn_193 : decode cX4_readsOn 193 = .ok (.isub, 1) := by decide +kernel
theorem dX4_readsOn_194 : decode cX4_readsOn 194 = .ok (.goto 7, 3) := by decide +kernel
theorem dX4_readsOn_197 : decode cX4_readsOn 197 = .ok (.aload_n 0, 1) := by decide +kernel
theorem dX4_readsOn_198 : decode cX4_readsOn 198 = .ok (.getfield 79, 3) := by decide +kernel
theorem dX4_readsOn_201 : decode cX4_readsOn 201 = .ok (.putfield 79, 3) := by decide +kernel
theorem dX4_readsOn_204 : decode cX4_readsOn 204 = .ok (.aload_n 0, 1) := by decide +kernel
theorem dX4_readsOn_205 : decode cX4_readsOn 205 = .ok (.dup, 1) := by decide +kernel
theorem dX4_readsOn_206 : decode cX4_readsOn 206 = .ok (.getfield 72, 3) := by decide +kernel
theorem dX4_readsOn_209 : decode cX4_readsOn 209 = .ok (.iconst 1, 1) := by decide +kernel
theorem dX4_readsOn_210 : decode cX4_readsOn 210 = .ok (.iadd, 1) := by decide +kernel
theorem dX4_readsOn_211 : decode cX4_readsOn 211 = .ok (.putfield 72, 3) := by decide +kernel
theorem dX4_readsOn_214 : decode cX4_readsOn 214 = .ok (.goto (-74), 3) := by decide +kernel
theorem dX4_readsOn_217 : decode cX4_readsOn 217 = .ok (.aload_n 0, 1) := by decide +kernel
theorem dX4_readsOn_218 : decode cX4_readsOn 218 = .ok (.iconst 2, 1) := by decide +kernel
theorem dX4_readsOn_219 : decode cX4_readsOn 219 = .ok (.putfield 69, 3) := by decide +kernel
theorem dX4_readsOn_222 : decode cX4_readsOn 222 = .ok (.aload_n 0, 1) := by decide +kernel
theorem dX4_readsOn_223 : decode cX4_readsOn 223 = .ok (.getfield 72, 3) := by decide +kernel
theorem dX4_readsOn_226 : decode cX4_readsOn 226 = .ok (.aload_n 0, 1) := by decide +kernel
theorem dX4_readsOn_227 : decode cX4_readsOn 227 = .ok (.getfield 63, 3) := by decide +kernel
theorem dX4_readsOn_230 : decode cX4_readsOn 230 = .ok (.isub, 1) := by decide +kernel
theorem dX4_readsOn_231 : decode cX4_readsOn 231 = .ok (.iconst 2, 1) := by decide +kernel
theorem dX4_readsOn_232 : decode cX4_readsOn 232 = .ok (.if_icmp .le 37, 3) := by decide +kernel
theorem dX4_readsOn_235 : decode cX4_readsOn 235 = .ok (.aload_n 0, 1) := by decide +kernel
theorem dX4_readsOn_236 : decode cX4_readsOn 236 = .ok (.iconst 1, 1) := by decide +kernel
theorem dX4_readsOn_237 : decode cX4_readsOn 237 = .ok (.invokevirtual 90, 3) := by decide +kernel
theorem dX4_readsOn_240 : decode cX4_readsOn 240 = .ok (.goto 29, 3) := by decide +kernel
theorem dX4_readsOn_243 : decode cX4_readsOn 243 = .ok (.aload_n 0, 1) := by decide +kernel
theorem dX4_readsOn_244 : decode cX4_readsOn 244 = .ok (.iconst 3, 1) := by decide +kernel
theorem dX4_readsOn_245 : decode cX4_readsOn 245 = .ok (.putfield 69, 3) := by decide +kernel
theorem dX4_readsOn_248 : decode cX4_readsOn 248 = .ok (.aload_n 0, 1) := by decide +kernel
theorem dX4_readsOn_249 : decode cX4_readsOn 249 = .ok (.dup, 1) := by decide +kernel
theorem dX4_readsOn_250 : decode cX4_readsOn 250 = .ok (.getfield 72, 3) := by decide +kernel
theorem dX4_readsOn_253 : decode cX4_readsOn 253 = .ok (.iconst 1, 1) := by decide +kernel
theorem dX4_readsOn_254 : decode cX4_readsOn 254 = .ok (.iadd, 1) := by decide +kernel
theorem dX4_readsOn_255 : decode cX4_readsOn 255 = .ok (.putfield 72, 3) := by decide +kernel
theorem dX4_readsOn_258 : decode cX4_readsOn 258 = .ok (.iload_n 1, 1) := by decide +kernel
theorem dX4_readsOn_259 : decode cX4_readsOn 259 = .ok (.bipush 59, 2) := by decide +kernel
theorem dX4_readsOn_261 : decode cX4_readsOn 261 = .ok (.if_icmp .eq 8, 3) := by decide +kernel
theorem dX4_readsOn_264 : decode cX4_readsOn 264 = .ok (.aload_n 0, 1) := by decide +kernel
theorem dX4_readsOn_265 : decode cX4_readsOn 265 = .ok (.iconst 1, 1) := by decide +kernel
theorem dX4_readsOn_266 : decode cX4_readsOn 266 = .ok (.invokevirtual 90, 3) := by decide +kernel
theorem dX4_readsOn_269 : decode cX4_readsOn 269 = .ok (.return_, 1) := by decide +kernel
theorem dX4_number_0 : decode cX4_number 0 = .ok (.aload_n 0, 1) := by decide +kernel
theorem dX4_number_1 : decode cX4_number 1 = .ok (.getfield 60, 3) := by decide +kernel
theorem dX4_number_4 : decode cX4_number 4 = .ok (.ifCond .ne 16, 3) := by decide +kernel
theorem dX4_number_7 : decode cX4_number 7 = .ok (.aload_n 0, 1) := by decide +kernel
theorem dX4_number_8 : decode cX4_number 8 = .ok (.getfield 69, 3) := by decide +kernel
theorem dX4_number_11 : decode cX4_number 11 = .ok (.iconst 2, 1) := by decide +kernel
theorem dX4_number_12 : decode cX4_number 12 = .ok (.if_icmp .eq 8, 3) := by decide +kernel
theorem dX4_number_15 : decode cX4_number 15 = .ok (.aload_n 0, 1) := by decide +kernel
theorem dX4_number_16 : decode cX4_number 16 = .ok (.iconst 2, 1) := by decide +kernel
theorem dX4_number_17 : decode cX4_number 17 = .ok (.invokevirtual 90, 3) := by decide +kernel
theorem dX4_number_20 : decode cX4_number 20 = .ok (.aload_n 0, 1) := by decide +kernel
theorem dX4_number_21 : decode cX4_number 21 = .ok (.getfield 60, 3) := by decide +kernel
theorem dX4_number_24 : decode cX4_number 24 = .ok (.ifCond .ne 23, 3) := by decide +kernel
theorem dX4_number_27 : decode cX4_number 27 = .ok (.aload_n 0, 1) := by decide +kernel
theorem dX4_number_28 : decode cX4_number 28 = .ok (.getfield 79, 3) := by decide +kernel
theorem dX4_number_31 : decode cX4_number 31 = .ok (.i2l, 1) := by decide +kernel
theorem dX4_number_32 : decode cX4_number 32 = .ok (.iload_n 1, 1) := by decide +kernel
theorem dX4_number_33 : decode cX4_number 33 = .ok (.i2l, 1) := by decide +kernel
theorem dX4_number_34 : decode cX4_number 34 = .ok (.iload_n 2, 1) := by decide +kernel
theorem dX4_number_35 : decode cX4_number 35 = .ok (.i2l, 1) := by decide +kernel
theorem dX4_number_36 : decode cX4_number 36 = .ok (.invokestatic 53, 3) := by decide +kernel
theorem dX4_number_39 : decode cX4_number 39 = .ok (.ifCond .ne 8, 3) := by decide +kernel
theorem dX4_number_42 : decode cX4_number 42 = .ok (.aload_n 0, 1) := by decide +kernel
theorem dX4_number_43 : decode cX4_number 43 = .ok (.iconst 3, 1) := by decide +kernel
theorem dX4_number_44 : decode cX4_number 44 = .ok (.invokevirtual 90, 3) := by decide +kernel
theorem dX4_number_47 : decode cX4_number 47 = .ok (.aload_n 0, 1) := by decide +kernel
theorem dX4_number_48 : decode cX4_number 48 = .ok (.getfield 60, 3) := by decide +kernel
theorem dX4_number_51 : decode cX4_number 51 = .ok (.ifCond .ne 10, 3) := by decide +kernel
theorem dX4_number_54 : decode cX4_number 54 = .ok (.aload_n 0, 1) := by decide +kernel
theorem dX4_number_55 : decode cX4_number 55 = .ok (.getfield 79, 3) := by decide +kernel
theorem dX4_number_58 : decode cX4_number 58 = .ok (.goto 4, 3) := by decide +kernel
theorem dX4_number_61 : decode cX4_number 61 = .ok (.iload_n 1, 1) := by decide +kernel
theorem dX4_number_62 : decode cX4_number 62 = .ok (.istore_n 3, 1) := by decide +kernel
theorem dX4_number_63 : decode cX4_number 63 = .ok (.aload_n 0, 1) := by decide +kernel
theorem dX4_number_64 : decode cX4_number 64 = .ok (.invokevirtual 94, 3) := by decide +kernel
theorem dX4_number_67 : decode cX4_number 67 = .ok (.iload_n 3, 1) := by decide +kernel
theorem dX4_number_68 : decode cX4_number 68 = .ok (.ireturn, 1) := by decide +kernel
theorem dX4_readMore_0 : decode cX4_readMore 0 = .ok (.iload_n 1, 1) := by decide +kernel
theorem dX4_readMore_1 : decode cX4_readMore 1 = .ok (.iconst 3, 1) := by decide +kernel
theorem dX4_readMore_2 : decode cX4_readMore 2 = .ok (.if_icmp .gt 63, 3) := by decide +kernel
theorem dX4_readMore_5 : decode cX4_readMore 5 = .ok (.aload_n 0, 1) := by decide +kernel
theorem dX4_readMore_6 : decode cX4_readMore 6 = .ok (.getfield 13, 3) := by decide +kernel
theorem dX4_readMore_9 : decode cX4_readMore 9 = .ok (.bipush 16, 2) := by decide +kernel
theorem dX4_readMore_11 : decode cX4_readMore 11 = .ok (.iaload, 1) := by decide +kernel
theorem dX4_readMore_12 : decode cX4_readMore 12 = .ok (.istore_n 2, 1) := by decide +kernel
theorem dX4_readMore_13 : decode cX4_readMore 13 = .ok (.aload_n 0, 1) := by decide +kernel
theorem dX4_readMore_14 : decode cX4_readMore 14 = .ok (.getfield 13, 3) := by decide +kernel
theorem dX4_readMore_17 : decode cX4_readMore 17 = .ok (.iload_n 2, 1) := by decide +kernel
theorem dX4_readMore_18 : decode cX4_readMore 18 = .ok (.iload_n 1, 1) := by decide +kernel
theorem dX4_readMore_19 : decode cX4_readMore 19 = .ok (.iastore, 1) := by decide +kernel
theorem dX4_readMore_20 : decode cX4_readMore 20 = .ok (.aload_n 0, 1) := by decide +kernel
theorem dX4_readMore_21 : decode cX4_readMore 21 = .ok (.getfield 13, 3) := by decide +kernel
theorem dX4_readMore_24 : decode cX4_readMore 24 = .ok (.iconst 4, 1) := by decide +kernel
theorem dX4_readMore_25 : decode cX4_readMore 25 = .ok (.iload_n 2, 1) := by decide +kernel
theorem dX4_readMore_26 : decode cX4_readMore 26 = .ok (.iadd, 1) := by decide +kernel
theorem dX4_readMore_27 : decode cX4_readMore 27 = .ok (.aload_n 0, 1) := by decide +kernel
theorem dX4_readMore_28 : decode cX4_readMore 28 = .ok (.iconst 1, 1) := by decide +kernel
theorem dX4_readMore_29 : decode cX4_readMore 29 = .ok (.bipush 20, 2) := by decide +kernel
theorem dX4_readMore_31 : decode cX4_readMore 31 = .ok (.invokevirtual 97, 3) := by decide +kernel
theorem dX4_readMore_34 : decode cX4_readMore 34 = .ok (.iastore, 1) := by decide +kernel
theorem dX4_readMore_35 : decode cX4_readMore 35 = .ok (.aload_n 0, 1) := by decide +kernel
theorem dX4_readMore_36 : decode cX4_readMore 36 = .ok (.getfield 13, 3) := by decide +kernel
theorem dX4_readMore_39 : decode cX4_readMore 39 = .ok (.bipush 8, 2) := by decide +kernel
theorem dX4_readMore_41 : decode cX4_readMore 41 = .ok (.iload_n 2, 1) := by decide +kernel
theorem dX4_readMore_42 : decode cX4_readMore 42 = .ok (.iadd, 1) := by decide +kernel
theorem dX4_readMore_43 : decode cX4_readMore 43 = .ok (.aload_n 0, 1) := by decide +kernel
theorem dX4_readMore_44 : decode cX4_readMore 44 = .ok (.iconst 0, 1) := by decide +kernel
theorem dX4_readMore_45 : decode cX4_readMore 45 = .ok (.bipush 9, 2) := by decide +kernel
theorem dX4_readMore_47 : decode cX4_readMore 47 = .ok (.invokevirtual 97, 3) := by decide +kernel
theorem dX4_readMore_50 : decode cX4_readMore 50 = .ok (.iastore, 1) := by decide +kernel
theorem dX4_readMore_51 : decode cX4_readMore 51 = .ok (.aload_n 0, 1) := by decide +kernel
theorem dX4_readMore_52 : decode cX4_readMore 52 = .ok (.getfield 13, 3) := by decide +kernel
theorem dX4_readMore_55 : decode cX4_readMore 55 = .ok (.bipush 16, 2) := by decide +kernel
theorem dX4_readMore_57 : decode cX4_readMore 57 = .ok (.dup2, 1) := by decide +kernel
theorem dX4_readMore_58 : decode cX4_readMore 58 = .ok (.iaload, 1) := by decide +kernel
theorem dX4_readMore_59 : decode cX4_readMore 59 = .ok (.iconst 1, 1) := by decide +kernel
theorem dX4_readMore_60 : decode cX4_readMore 60 = .ok (.iadd, 1) := by decide +kernel
theorem dX4_readMore_61 : decode cX4_readMore 61 = .ok (.iastore, 1) := by decide +kernel
theorem dX4_readMore_62 : decode cX4_readMore 62 = .ok (.goto 79, 3) := by decide +kernel
theorem dX4_readMore_65 : decode cX4_readMore 65 = .ok (.iload_n 1, 1) := by decide +kernel
theorem dX4_readMore_66 : decode cX4_readMore 66 = .ok (.iconst 4, 1) := by decide +kernel
theorem dX4_readMore_67 : decode cX4_readMore 67 = .ok (.if_icmp .ne 22, 3) := by decide +kernel
theorem dX4_readMore_70 : decode cX4_readMore 70 = .ok (.aload_n 0, 1) := by decide +kernel
theorem dX4_readMore_71 : decode cX4_readMore 71 = .ok (.getfield 13, 3) := by decide +kernel
theorem dX4_readMore_74 : decode cX4_readMore 74 = .ok (.bipush 34, 2) := by decide +kernel
theorem dX4_readMore_76 : decode cX4_readMore 76 = .ok (.aload_n 0, 1) := by decide +kernel
theorem dX4_readMore_77 : decode cX4_readMore 77 = .ok (.iconst 1, 1) := by decide +kernel
theorem dX4_readMore_78 : decode cX4_readMore 78 = .ok (.bipush 20, 2) := by decide +kernel
theorem dX4_readMore_80 : decode cX4_readMore 80 = .ok (.invokevirtual 97, 3) := by decide +kernel
theorem dX4_readMore_83 : decode cX4_readMore 83 = .ok (.iconst 5, 1) := by decide +kernel
theorem dX4_readMore_84 : decode cX4_readMore 84 = .ok (.isub, 1) := by decide +kernel
theorem dX4_readMore_85 : decode cX4_readMore 85 = .ok (.iastore, 1) := by decide +kernel
theorem dX4_readMore_86 : decode cX4_readMore 86 = .ok (.goto 55, 3) := by decide +kernel
theorem dX4_readMore_89 : decode cX4_readMore 89 = .ok (.aload_n 0, 1) := by decide +kernel
theorem dX4_readMore_90 : decode cX4_readMore 90 = .ok (.getfield 13, 3) := by decide +kernel
theorem dX4_readMore_93 : decode cX4_readMore 93 = .ok (.bipush 33, 2) := by decide +kernel
theorem dX4_readMore_95 : decode cX4_readMore 95 = .ok (.iaload, 1) := by decide +kernel
theorem dX4_readMore_96 : decode cX4_readMore 96 = .ok (.istore_n 2, 1) := by decide +kernel
theorem dX4_readMore_97 : decode cX4_readMore 97 = .ok (.aload_n 0, 1) := by decide +kernel
theorem dX4_readMore_98 : decode cX4_readMore 98 = .ok (.getfield 13, 3) := by decide +kernel
theorem dX4_readMore_101 : decode cX4_readMore 101 = .ok (.bipush 17, 2) := by decide +kernel
theorem dX4_readMore_103 : decode cX4_readMore 103 = .ok (.iload_n 2, 1) := by decide +kernel
theorem dX4_readMore_104 : decode cX4_readMore 104 = .ok (.iadd, 1) := by decide +kernel
theorem dX4_readMore_105 : decode cX4_readMore 105 = .ok (.bipush 100, 2) := by decide +kernel
theorem dX4_readMore_107 : decode cX4_readMore 107 = .ok (.iload_n 1, 1) := by decide +kernel
theorem dX4_readMore_108 : decode cX4_readMore 108 = .ok (.iconst 5, 1) := by decide +kernel
theorem dX4_readMore_109 : decode cX4_readMore 109 = .ok (.isub, 1) := by decide +kernel
theorem dX4_readMore_110 : decode cX4_readMore 110 = .ok (.imul, 1) := by decide +kernel
theorem dX4_readMore_111 : decode cX4_readMore 111 = .ok (.aload_n 0, 1) := by decide +kernel
theorem dX4_readMore_112 : decode cX4_readMore 112 = .ok (.iconst 0, 1) := by decide +kernel
theorem dX4_readMore_113 : decode cX4_readMore 113 = .ok (.iload_n 1, 1) := by decide +kernel
theorem dX4_readMore_114 : decode cX4_readMore 114 = .ok (.bipush 7, 2) := by decide +kernel
theorem dX4_readMore_116 : decode cX4_readMore 116 = .ok (.if_icmp .ne 7, 3) := by decide +kernel
theorem dX4_readMore_119 : decode cX4_readMore 119 = .ok (.iconst 3, 1) := by decide +kernel
theorem dX4_readMore_120 : decode cX4_readMore 120 = .ok (.goto 5, 3) := by decide +kernel
theorem dX4_readMore_123 : decode cX4_readMore 123 = .ok (.bipush 99, 2) := by decide +kernel
theorem dX4_readMore_125 : decode cX4_readMore 125 = .ok (.invokevirtual 97, 3) := by decide +kernel
theorem dX4_readMore_128 : decode cX4_readMore 128 = .ok (.iadd, 1) := by decide +kernel
theorem dX4_readMore_129 : decode cX4_readMore 129 = .ok (.iastore, 1) := by decide +kernel
theorem dX4_readMore_130 : decode cX4_readMore 130 = .ok (.aload_n 0, 1) := by decide +kernel
theorem dX4_readMore_131 : decode cX4_readMore 131 = .ok (.getfield 13, 3) := by decide +kernel
theorem dX4_readMore_134 : decode cX4_readMore 134 = .ok (.bipush 33, 2) := by decide +kernel
theorem dX4_readMore_136 : decode cX4_readMore 136 = .ok (.dup2, 1) := by decide +kernel
theorem dX4_readMore_137 : decode cX4_readMore 137 = .ok (.iaload, 1) := by decide +kernel
theorem dX4_readMore_138 : decode cX4_readMore 138 = .ok (.iconst 1, 1) := by decide +kernel
theorem dX4_readMore_139 : decode cX4_readMore 139 = .ok (.iadd, 1) := by decide +kernel
theorem dX4_readMore_140 : decode cX4_readMore 140 = .ok (.iastore, 1) := by decide +kernel
theorem dX4_readMore_141 : decode cX4_readMore 141 = .ok (.return_, 1) := by decide +kernel
theorem dX4_readLine_0 : decode cX4_readLine 0 = .ok (.aload_n 0, 1) := by decide +kernel
theorem dX4_readLine_1 : decode cX4_readLine 1 = .ok (.invokevirtual 101, 3) := by decide +kernel
theorem dX4_readLine_4 : decode cX4_readLine 4 = .ok (.istore_n 1, 1) := by decide +kernel
theorem dX4_readLine_5 : decode cX4_readLine 5 = .ok (.iload_n 1, 1) := by decide +kernel
theorem dX4_readLine_6 : decode cX4_readLine 6 = .ok (.i2l, 1) := by decide +kernel
theorem dX4_readLine_7 : decode cX4_readLine 7 = .ok (.lconst 0, 1) := by decide +kernel
theorem dX4_readLine_8 : decode cX4_readLine 8 = .ok (.ldc2_w 105, 3) := by decide +kernel
theorem dX4_readLine_11 : decode cX4_readLine 11 = .ok (.invokestatic 53, 3) := by decide +kernel
theorem dX4_readLine_14 : decode cX4_readLine 14 = .ok (.ifCond .ne 9, 3) := by decide +kernel
theorem dX4_readLine_17 : decode cX4_readLine 17 = .ok (.aload_n 0, 1) := by decide +kernel
theorem dX4_readLine_18 : decode cX4_readLine 18 = .ok (.iconst 2, 1) := by decide +kernel
theorem dX4_readLine_19 : decode cX4_readLine 19 = .ok (.invokevirtual 90, 3) := by decide +kernel
theorem dX4_readLine_22 : decode cX4_readLine 22 = .ok (.return_, 1) := by decide +kernel
theorem dX4_readLine_23 : decode cX4_readLine 23 = .ok (.iload_n 1, 1) := by decide +kernel
theorem dX4_readLine_24 : decode cX4_readLine 24 = .ok (.iconst 3, 1) := by decide +kernel
theorem dX4_readLine_25 : decode cX4_readLine 25 = .ok (.if_icmp .gt 14, 3) := by decide +kernel
theorem dX4_readLine_28 : decode cX4_readLine 28 = .ok (.aload_n 0, 1) := by decide +kernel
theorem dX4_readLine_29 : decode cX4_readLine 29 = .ok (.getfield 13, 3) := by decide +kernel
theorem dX4_readLine_32 : decode cX4_readLine 32 = .ok (.bipush 16, 2) := by decide +kernel
theorem dX4_readLine_34 : decode cX4_readLine 34 = .ok (.iaload, 1) := by decide +kernel
theorem dX4_readLine_35 : decode cX4_readLine 35 = .ok (.iconst 4, 1) := by decide +kernel
theorem dX4_readLine_36 : decode cX4_readLine 36 = .ok (.if_icmp .eq 20, 3) := by decide +kernel
theorem dX4_readLine_39 : decode cX4_readLine 39 = .ok (.iload_n 1, 1) := by decide +kernel
theorem dX4_readLine_40 : decode cX4_readLine 40 = .ok (.iconst 5, 1) := by decide +kernel
theorem dX4_readLine_41 : decode cX4_readLine 41 = .ok (.if_icmp .lt 20, 3) := by decide +kernel
theorem dX4_readLine_44 : decode cX4_readLine 44 = .ok (.aload_n 0, 1) := by decide +kernel
theorem dX4_readLine_45 : decode cX4_readLine 45 = .ok (.getfield 13, 3) := by decide +kernel
theorem dX4_readLine_48 : decode cX4_readLine 48 = .ok (.bipush 33, 2) := by decide +kernel
theorem dX4_readLine_50 : decode cX4_readLine 50 = .ok (.iaload, 1) := by decide +kernel
theorem dX4_readLine_51 : decode cX4_readLine 51 = .ok (.bipush 16, 2) := by decide +kernel
theorem dX4_readLine_53 : decode cX4_readLine 53 = .ok (.if_icmp .ne 8, 3) := by decide +kernel
theorem dX4_readLine_56 : decode cX4_readLine 56 = .ok (.aload_n 0, 1) := by decide +kernel
theorem dX4_readLine_57 : decode cX4_readLine 57 = .ok (.iconst 5, 1) := by decide +kernel
theorem dX4_readLine_58 : decode cX4_readLine 58 = .ok (.invokevirtual 90, 3) := by decide +kernel
theorem dX4_readLine_61 : decode cX4_readLine 61 = .ok (.iload_n 1, 1) := by decide +kernel
theorem dX4_readLine_62 : decode cX4_readLine 62 = .ok (.iconst 4, 1) := by decide +kernel
theorem dX4_readLine_63 : decode cX4_readLine 63 = .ok (.if_icmp .ne 15, 3) := by decide +kernel
theorem dX4_readLine_66 : decode cX4_readLine 66 = .ok (.aload_n 0, 1) := by decide +kernel
theorem dX4_readLine_67 : decode cX4_readLine 67 = .ok (.getfield 107, 3) := by decide +kernel
theorem dX4_readLine_70 : decode cX4_readLine 70 = .ok (.ifCond .eq 8, 3) := by decide +kernel
theorem dX4_readLine_73 : decode cX4_readLine 73 = .ok (.aload_n 0, 1) := by decide +kernel
theorem dX4_readLine_74 : decode cX4_readLine 74 = .ok (.iconst 4, 1) := by decide +kernel
theorem dX4_readLine_75 : decode cX4_readLine 75 = .ok (.invokevirtual 90, 3) := by decide +kernel
theorem dX4_readLine_78 : decode cX4_readLine 78 = .ok (.aload_n 0, 1) := by decide +kernel
theorem dX4_readLine_79 : decode cX4_readLine 79 = .ok (.aload_n 0, 1) := by decide +kernel
theorem dX4_readLine_80 : decode cX4_readLine 80 = .ok (.getfield 107, 3) := by decide +kernel
theorem dX4_readLine_83 : decode cX4_readLine 83 = .ok (.ifCond .ne 8, 3) := by decide +kernel
theorem dX4_readLine_86 : decode cX4_readLine 86 = .ok (.iload_n 1, 1) := by decide +kernel
theorem dX4_readLine_87 : decode cX4_readLine 87 = .ok (.iconst 4, 1) := by decide +kernel
theorem dX4_readLine_88 : decode cX4_readLine 88 = .ok (.if_icmp .ne 7, 3) := by decide +kernel
theorem dX4_readLine_91 : decode cX4_readLine 91 = .ok (.iconst 1, 1) := by decide +kernel
theorem dX4_readLine_92 : decode cX4_readLine 92 = .ok (.goto 4, 3) := by decide +kernel
theorem dX4_readLine_95 : decode cX4_readLine 95 = .ok (.iconst 0, 1) := by decide +kernel
theorem dX4_readLine_96 : decode cX4_readLine 96 = .ok (.putfield 107, 3) := by decide +kernel
theorem dX4_readLine_99 : decode cX4_readLine 99 = .ok (.aload_n 0, 1) := by decide +kernel
theorem dX4_readLine_100 : decode cX4_readLine 100 = .ok (.invokevirtual 94, 3) := by decide +kernel
theorem dX4_readLine_103 : decode cX4_readLine 103 = .ok (.aload_n 0, 1) := by decide +kernel
theorem dX4_readLine_104 : decode cX4_readLine 104 = .ok (.getfield 60, 3) := by decide +kernel
theorem dX4_readLine_107 : decode cX4_readLine 107 = .ok (.ifCond .le 4, 3) := by decide +kernel
theorem dX4_readLine_110 : decode cX4_readLine 110 = .ok (.return_, 1) := by decide +kernel
theorem dX4_readLine_111 : decode cX4_readLine 111 = .ok (.aload_n 0, 1) := by decide +kernel
theorem dX4_readLine_112 : decode cX4_readLine 112 = .ok (.iload_n 1, 1) := by decide +kernel
theorem dX4_readLine_113 : decode cX4_readLine 113 = .ok (.invokevirtual 111, 3) := by decide +kernel
theorem dX4_readLine_116 : decode cX4_readLine 116 = .ok (.aload_n 0, 1) := by decide +kernel
theorem dX4_readLine_117 : decode cX4_readLine 117 = .ok (.getfield 60, 3) := by decide +kernel
theorem dX4_readLine_120 : decode cX4_readLine 120 = .ok (.ifCond .ne 16, 3) := by decide +kernel
theorem dX4_readLine_123 : decode cX4_readLine 123 = .ok (.aload_n 0, 1) := by decide +kernel
theorem dX4_readLine_124 : decode cX4_readLine 124 = .ok (.getfield 69, 3) := by decide +kernel
theorem dX4_readLine_127 : decode cX4_readLine 127 = .ok (.iconst 3, 1) := by decide +kernel
theorem dX4_readLine_128 : decode cX4_readLine 128 = .ok (.if_icmp .eq 8, 3) := by decide +kernel
theorem dX4_readLine_131 : decode cX4_readLine 131 = .ok (.aload_n 0, 1) := by decide +kernel
theorem dX4_readLine_132 : decode cX4_readLine 132 = .ok (.iconst 2, 1) := by decide +kernel
theorem dX4_readLine_133 : decode cX4_readLine 133 = .ok (.invokevirtual 90, 3) := by decide +kernel
theorem dX4_readLine_136 : decode cX4_readLine 136 = .ok (.aload_n 0, 1) := by decide +kernel
theorem dX4_readLine_137 : decode cX4_readLine 137 = .ok (.invokevirtual 94, 3) := by decide +kernel
theorem dX4_readLine_140 : decode cX4_readLine 140 = .ok (.return_, 1) := by decide +kernel
theorem dX4_text_0 : decode cX4_text 0 = .ok (.aload_n 0, 1) := by decide +kernel
theorem dX4_text_1 : decode cX4_text 1 = .ok (.iconst 0, 1) := by decide +kernel
theorem dX4_text_2 : decode cX4_text 2 = .ok (.putfield 60, 3) := by decide +kernel
theorem dX4_text_5 : decode cX4_text 5 = .ok (.aload_n 0, 1) := by decide +kernel
theorem dX4_text_6 : decode cX4_text 6 = .ok (.iconst 0, 1) := by decide +kernel
theorem dX4_text_7 : decode cX4_text 7 = .ok (.putfield 72, 3) := by decide +kernel
theorem dX4_text_10 : decode cX4_text 10 = .ok (.aload_n 0, 1) := by decide +kernel
theorem dX4_text_11 : decode cX4_text 11 = .ok (.iconst 0, 1) := by decide +kernel
theorem dX4_text_12 : decode cX4_text 12 = .ok (.putfield 107, 3) := by decide +kernel
theorem dX4_text_15 : decode cX4_text 15 = .ok (.iconst 0, 1) := by decide +kernel
theorem dX4_text_16 : decode cX4_text 16 = .ok (.istore_n 1, 1) := by decide +kernel
theorem dX4_text_17 : decode cX4_text 17 = .ok (.iconst 0, 1) := by decide +kernel
theorem dX4_text_18 : decode cX4_text 18 = .ok (.istore_n 2, 1) := by decide +kernel
theorem dX4_text_19 : decode cX4_text 19 = .ok (.iload_n 2, 1) := by decide +kernel
theorem dX4_text_20 : decode cX4_text 20 = .ok (.bipush 39, 2) := by decide +kernel
theorem dX4_text_22 : decode cX4_text 22 = .ok (.if_icmp .ge 16, 3) := by decide +kernel
theorem dX4_text_25 : decode cX4_text 25 = .ok (.aload_n 0, 1) := by decide +kernel
theorem dX4_text_26 : decode cX4_text 26 = .ok (.getfield 13, 3) := by decide +kernel
theorem dX4_text_29 : decode cX4_text 29 = .ok (.iload_n 2, 1) := by decide +kernel
theorem dX4_text_30 : decode cX4_text 30 = .ok (.iconst 0, 1) := by decide +kernel
theorem dX4_text_31 : decode cX4_text 31 = .ok (.iastore, 1) := by decide +kernel
theorem dX4_text_32 : decode cX4_text 32 = .ok (.iinc 2 1, 3) := by decide +kernel
theorem dX4_text_35 : decode cX4_text 35 = .ok (.goto (-16), 3) := by decide +kernel
theorem dX4_text_38 : decode cX4_text 38 = .ok (.aload_n 0, 1) := by decide +kernel
theorem dX4_text_39 : decode cX4_text 39 = .ok (.invokevirtual 94, 3) := by decide +kernel
theorem dX4_text_42 : decode cX4_text 42 = .ok (.aload_n 0, 1) := by decide +kernel
theorem dX4_text_43 : decode cX4_text 43 = .ok (.getfield 60, 3) := by decide +kernel
theorem dX4_text_46 : decode cX4_text 46 = .ok (.ifCond .ne 20, 3) := by decide +kernel
theorem dX4_text_49 : decode cX4_text 49 = .ok (.aload_n 0, 1) := by decide +kernel
theorem dX4_text_50 : decode cX4_text 50 = .ok (.getfield 69, 3) := by decide +kernel
theorem dX4_text_53 : decode cX4_text 53 = .ok (.ifCond .eq 13, 3) := by decide +kernel
theorem dX4_text_56 : decode cX4_text 56 = .ok (.aload_n 0, 1) := by decide +kernel
theorem dX4_text_57 : decode cX4_text 57 = .ok (.invokevirtual 114, 3) := by decide +kernel
theorem dX4_text_60 : decode cX4_text 60 = .ok (.iinc 1 1, 3) := by decide +kernel
theorem dX4_text_63 : decode cX4_text 63 = .ok (.goto (-21), 3) := by decide +kernel
theorem dX4_text_66 : decode cX4_text 66 = .ok (.aload_n 0, 1) := by decide +kernel
theorem dX4_text_67 : decode cX4_text 67 = .ok (.iconst 0, 1) := by decide +kernel
theorem dX4_text_68 : decode cX4_text 68 = .ok (.putfield 57, 3) := by decide +kernel
theorem dX4_text_71 : decode cX4_text 71 = .ok (.aload_n 0, 1) := by decide +kernel
theorem dX4_text_72 : decode cX4_text 72 = .ok (.aload_n 0, 1) := by decide +kernel
theorem dX4_text_73 : decode cX4_text 73 = .ok (.getfield 60, 3) := by decide +kernel
theorem dX4_text_76 : decode cX4_text 76 = .ok (.putfield 117, 3) := by decide +kernel
theorem dX4_text_79 : decode cX4_text 79 = .ok (.aload_n 0, 1) := by decide +kernel
theorem dX4_text_80 : decode cX4_text 80 = .ok (.getfield 60, 3) := by decide +kernel
theorem dX4_text_83 : decode cX4_text 83 = .ok (.ifCond .le 11, 3) := by decide +kernel
theorem dX4_text_86 : decode cX4_text 86 = .ok (.bipush (-10), 2) := by decide +kernel
theorem dX4_text_88 : decode cX4_text 88 = .ok (.aload_n 0, 1) := by decide +kernel
theorem dX4_text_89 : decode cX4_text 89 = .ok (.getfield 66, 3) := by decide +kernel
theorem dX4_text_92 : decode cX4_text 92 = .ok (.isub, 1) := by decide +kernel
theorem dX4_text_93 : decode cX4_text 93 = .ok (.ireturn, 1) := by decide +kernel
theorem dX4_text_94 : decode cX4_text 94 = .ok (.iconst 0, 1) := by decide +kernel
theorem dX4_text_95 : decode cX4_text 95 = .ok (.istore_n 2, 1) := by decide +kernel
theorem dX4_text_96 : decode cX4_text 96 = .ok (.iload_n 2, 1) := by decide +kernel
theorem dX4_text_97 : decode cX4_text 97 = .ok (.bipush 39, 2) := by decide +kernel
theorem dX4_text_99 : decode cX4_text 99 = .ok (.if_icmp .ge 21, 3) := by decide +kernel
theorem dX4_text_102 : decode cX4_text 102 = .ok (.aload_n 0, 1) := by decide +kernel
theorem dX4_text_103 : decode cX4_text 103 = .ok (.getfield 7, 3) := by decide +kernel
theorem dX4_text_106 : decode cX4_text 106 = .ok (.iload_n 2, 1) := by decide +kernel
theorem dX4_text_107 : decode cX4_text 107 = .ok (.aload_n 0, 1) := by decide +kernel
theorem dX4_text_108 : decode cX4_text 108 = .ok (.getfield 13, 3) := by decide +kernel
theorem dX4_text_111 : decode cX4_text 111 = .ok (.iload_n 2, 1) := by decide +kernel
theorem dX4_text_112 : decode cX4_text 112 = .ok (.iaload, 1) := by decide +kernel
theorem dX4_text_113 : decode cX4_text 113 = .ok (.iastore, 1) := by decide +kernel
theorem dX4_text_114 : decode cX4_text 114 = .ok (.iinc 2 1, 3) := by decide +kernel
theorem dX4_text_117 : decode cX4_text 117 = .ok (.goto (-21), 3) := by decide +kernel
theorem dX4_text_120 : decode cX4_text 120 = .ok (.aload_n 0, 1) := by decide +kernel
theorem dX4_text_121 : decode cX4_text 121 = .ok (.iconst 0, 1) := by decide +kernel
theorem dX4_text_122 : decode cX4_text 122 = .ok (.putfield 120, 3) := by decide +kernel
theorem dX4_text_125 : decode cX4_text 125 = .ok (.aload_n 0, 1) := by decide +kernel
theorem dX4_text_126 : decode cX4_text 126 = .ok (.getfield 38, 3) := by decide +kernel
theorem dX4_text_129 : decode cX4_text 129 = .ok (.iconst 0, 1) := by decide +kernel
theorem dX4_text_130 : decode cX4_text 130 = .ok (.iconst 0, 1) := by decide +kernel
theorem dX4_text_131 : decode cX4_text 131 = .ok (.bastore, 1) := by decide +kernel
theorem dX4_text_132 : decode cX4_text 132 = .ok (.aload_n 0, 1) := by decide +kernel
theorem dX4_text_133 : decode cX4_text 133 = .ok (.getfield 38, 3) := by decide +kernel
theorem dX4_text_136 : decode cX4_text 136 = .ok (.iconst 1, 1) := by decide +kernel
theorem dX4_text_137 : decode cX4_text 137 = .ok (.iconst 0, 1) := by decide +kernel
theorem dX4_text_138 : decode cX4_text 138 = .ok (.bastore, 1) := by decide +kernel
theorem dX4_text_139 : decode cX4_text 139 = .ok (.iload_n 1, 1) := by decide +kernel
theorem dX4_text_140 : decode cX4_text 140 = .ok (.ireturn, 1) := by decide +kernel
theorem dX4_fault_0 : decode cX4_fault 0 = .ok (.aload_n 0, 1) := by decide +kernel
theorem dX4_fault_1 : decode cX4_fault 1 = .ok (.getfield 117, 3) := by decide +kernel
theorem dX4_fault_4 : decode cX4_fault 4 = .ok (.ireturn, 1) := by decide +kernel
theorem dX4_isWheel_0 : decode cX4_isWheel 0 = .ok (.iload_n 1, 1) := by decide +kernel
theorem dX4_isWheel_1 : decode cX4_isWheel 1 = .ok (.i2l, 1) := by decide +kernel
theorem dX4_isWheel_2 : decode cX4_isWheel 2 = .ok (.lconst 0, 1) := by decide +kernel
theorem dX4_isWheel_3 : decode cX4_isWheel 3 = .ok (.aload_n 0, 1) := by decide +kernel
theorem dX4_isWheel_4 : decode cX4_isWheel 4 = .ok (.getfield 7, 3) := by decide +kernel
theorem dX4_isWheel_7 : decode cX4_isWheel 7 = .ok (.bipush 16, 2) := by decide +kernel
theorem dX4_isWheel_9 : decode cX4_isWheel 9 = .ok (.iaload, 1) := by decide +kernel
theorem dX4_isWheel_10 : decode cX4_isWheel 10 = .ok (.iconst 1, 1) := by decide +kernel
theorem dX4_isWheel_11 : decode cX4_isWheel 11 = .ok (.isub, 1) := by decide +kernel
theorem dX4_isWheel_12 : decode cX4_isWheel 12 = .ok (.i2l, 1) := by decide +kernel
theorem dX4_isWheel_13 : decode cX4_isWheel 13 = .ok (.invokestatic 53, 3) := by decide +kernel
theorem dX4_isWheel_16 : decode cX4_isWheel 16 = .ok (.ireturn, 1) := by decide +kernel
theorem dX4_isAct_0 : decode cX4_isAct 0 = .ok (.iload_n 1, 1) := by decide +kernel
theorem dX4_isAct_1 : decode cX4_isAct 1 = .ok (.i2l, 1) := by decide +kernel
theorem dX4_isAct_2 : decode cX4_isAct 2 = .ok (.lconst 0, 1) := by decide +kernel
theorem dX4_isAct_3 : decode cX4_isAct 3 = .ok (.aload_n 0, 1) := by decide +kernel
theorem dX4_isAct_4 : decode cX4_isAct 4 = .ok (.getfield 7, 3) := by decide +kernel
theorem dX4_isAct_7 : decode cX4_isAct 7 = .ok (.bipush 33, 2) := by decide +kernel
theorem dX4_isAct_9 : decode cX4_isAct 9 = .ok (.iaload, 1) := by decide +kernel
theorem dX4_isAct_10 : decode cX4_isAct 10 = .ok (.iconst 1, 1) := by decide +kernel
theorem dX4_isAct_11 : decode cX4_isAct 11 = .ok (.isub, 1) := by decide +kernel
theorem dX4_isAct_12 : decode cX4_isAct 12 = .ok (.i2l, 1) := by decide +kernel
theorem dX4_isAct_13 : decode cX4_isAct 13 = .ok (.invokestatic 53, 3) := by decide +kernel
theorem dX4_isAct_16 : decode cX4_isAct 16 = .ok (.ireturn, 1) := by decide +kernel
theorem dX4_isLong_0 : decode cX4_isLong 0 = .ok (.iload_n 0, 1) := by decide +kernel
theorem dX4_isLong_1 : decode cX4_isLong 1 = .ok (.i2l, 1) := by decide +kernel
theorem dX4_isLong_2 : decode cX4_isLong 2 = .ok (.lconst 0, 1) := by decide +kernel
theorem dX4_isLong_3 : decode cX4_isLong 3 = .ok (.ldc2_w 123, 3) := by decide +kernel
theorem dX4_isLong_6 : decode cX4_isLong 6 = .ok (.invokestatic 53, 3) := by decide +kernel
theorem dX4_isLong_9 : decode cX4_isLong 9 = .ok (.ireturn, 1) := by decide +kernel
theorem dX4_joinedOn_0 : decode cX4_joinedOn 0 = .ok (.aload_n 0, 1) := by decide +kernel
theorem dX4_joinedOn_1 : decode cX4_joinedOn 1 = .ok (.getfield 7, 3) := by decide +kernel
theorem dX4_joinedOn_4 : decode cX4_joinedOn 4 = .ok (.iload_n 1, 1) := by decide +kernel
theorem dX4_joinedOn_5 : decode cX4_joinedOn 5 = .ok (.iload_n 2, 1) := by decide +kernel
theorem dX4_joinedOn_6 : decode cX4_joinedOn 6 = .ok (.iadd, 1) := by decide +kernel
theorem dX4_joinedOn_7 : decode cX4_joinedOn 7 = .ok (.iaload, 1) := by decide +kernel
theorem dX4_joinedOn_8 : decode cX4_joinedOn 8 = .ok (.istore_n 3, 1) := by decide +kernel
theorem dX4_joinedOn_9 : decode cX4_joinedOn 9 = .ok (.aload_n 0, 1) := by decide +kernel
theorem dX4_joinedOn_10 : decode cX4_joinedOn 10 = .ok (.getfield 7, 3) := by decide +kernel
theorem dX4_joinedOn_13 : decode cX4_joinedOn 13 = .ok (.iload_n 1, 1) := by decide +kernel
theorem dX4_joinedOn_14 : decode cX4_joinedOn 14 = .ok (.bipush 12, 2) := by decide +kernel
theorem dX4_joinedOn_16 : decode cX4_joinedOn 16 = .ok (.iadd, 1) := by decide +kernel
theorem dX4_joinedOn_17 : decode cX4_joinedOn 17 = .ok (.iload_n 2, 1) := by decide +kernel
theorem dX4_joinedOn_18 : decode cX4_joinedOn 18 = .ok (.iadd, 1) := by decide +kernel
theorem dX4_joinedOn_19 : decode cX4_joinedOn 19 = .ok (.iaload, 1) := by decide +kernel
theorem dX4_joinedOn_20 : decode cX4_joinedOn 20 = .ok (.istore 4, 2) := by decide +kernel
theorem dX4_joinedOn_22 : decode cX4_joinedOn 22 = .ok (.aload_n 0, 1) := by decide +kernel
theorem dX4_joinedOn_23 : decode cX4_joinedOn 23 = .ok (.getfield 7, 3) := by decide +kernel
theorem dX4_joinedOn_26 : decode cX4_joinedOn 26 = .ok (.iload_n 1, 1) := by decide +kernel
theorem dX4_joinedOn_27 : decode cX4_joinedOn 27 = .ok (.iconst 4, 1) := by decide +kernel
theorem dX4_joinedOn_28 : decode cX4_joinedOn 28 = .ok (.iadd, 1) := by decide +kernel
theorem dX4_joinedOn_29 : decode cX4_joinedOn 29 = .ok (.iload_n 2, 1) := by decide +kernel
theorem dX4_joinedOn_30 : decode cX4_joinedOn 30 = .ok (.iadd, 1) := by decide +kernel
theorem dX4_joinedOn_31 : decode cX4_joinedOn 31 = .ok (.iaload, 1) := by decide +kernel
theorem dX4_joinedOn_32 : decode cX4_joinedOn 32 = .ok (.istore 5, 2) := by decide +kernel
theorem dX4_joinedOn_34 : decode cX4_joinedOn 34 = .ok (.iload 4, 2) := by decide +kernel
theorem dX4_joinedOn_36 : decode cX4_joinedOn 36 = .ok (.aload_n 0, 1) := by decide +kernel
theorem dX4_joinedOn_37 : decode cX4_joinedOn 37 = .ok (.getfield 7, 3) := by decide +kernel
theorem dX4_joinedOn_40 : decode cX4_joinedOn 40 = .ok (.iload_n 1, 1) := by decide +kernel
theorem dX4_joinedOn_41 : decode cX4_joinedOn 41 = .ok (.bipush 35, 2) := by decide +kernel
theorem dX4_joinedOn_43 : decode cX4_joinedOn 43 = .ok (.iadd, 1) := by decide +kernel
theorem dX4_joinedOn_44 : decode cX4_joinedOn 44 = .ok (.iaload, 1) := by decide +kernel
theorem dX4_joinedOn_45 : decode cX4_joinedOn 45 = .ok (.iadd, 1) := by decide +kernel
theorem dX4_joinedOn_46 : decode cX4_joinedOn 46 = .ok (.iload 5, 2) := by decide +kernel
theorem dX4_joinedOn_48 : decode cX4_joinedOn 48 = .ok (.imul, 1) := by decide +kernel
theorem dX4_joinedOn_49 : decode cX4_joinedOn 49 = .ok (.iload 5, 2) := by decide +kernel
theorem dX4_joinedOn_51 : decode cX4_joinedOn 51 = .ok (.aload_n 0, 1) := by decide +kernel
theorem dX4_joinedOn_52 : decode cX4_joinedOn 52 = .ok (.getfield 7, 3) := by decide +kernel
theorem dX4_joinedOn_55 : decode cX4_joinedOn 55 = .ok (.iload_n 1, 1) := by decide +kernel
theorem dX4_joinedOn_56 : decode cX4_joinedOn 56 = .ok (.bipush 34, 2) := by decide +kernel
theorem dX4_joinedOn_58 : decode cX4_joinedOn 58 = .ok (.iadd, 1) := by decide +kernel
theorem dX4_joinedOn_59 : decode cX4_joinedOn 59 = .ok (.iaload, 1) := by decide +kernel
theorem dX4_joinedOn_60 : decode cX4_joinedOn 60 = .ok (.iadd, 1) := by decide +kernel
theorem dX4_joinedOn_61 : decode cX4_joinedOn 61 = .ok (.iconst 5, 1) := by decide +kernel
theorem dX4_joinedOn_62 : decode cX4_joinedOn 62 = .ok (.iadd, 1) := by decide +kernel
theorem dX4_joinedOn_63 : decode cX4_joinedOn 63 = .ok (.idiv, 1) := by decide +kernel
theorem dX4_joinedOn_64 : decode cX4_joinedOn 64 = .ok (.istore 6, 2) := by decide +kernel
theorem dX4_joinedOn_66 : decode cX4_joinedOn 66 = .ok (.iload_n 3, 1) := by decide +kernel
theorem dX4_joinedOn_67 : decode cX4_joinedOn 67 = .ok (.ifCond .ne 6, 3) := by decide +kernel
theorem dX4_joinedOn_70 : decode cX4_joinedOn 70 = .ok (.iload 6, 2) := by decide +kernel
theorem dX4_joinedOn_72 : decode cX4_joinedOn 72 = .ok (.ireturn, 1) := by decide +kernel
theorem dX4_joinedOn_73 : decode cX4_joinedOn 73 = .ok (.iload_n 3, 1) := by decide +kernel
theorem dX4_joinedOn_74 : decode cX4_joinedOn 74 = .ok (.iconst 1, 1) := by decide +kernel
theorem dX4_joinedOn_75 : decode cX4_joinedOn 75 = .ok (.if_icmp .ne 14, 3) := by decide +kernel
theorem dX4_joinedOn_78 : decode cX4_joinedOn 78 = .ok (.iload 4, 2) := by decide +kernel
theorem dX4_joinedOn_80 : decode cX4_joinedOn 80 = .ok (.iload 6, 2) := by decide +kernel
theorem dX4_joinedOn_82 : decode cX4_joinedOn 82 = .ok (.iload 4, 2) := by decide +kernel
theorem dX4_joinedOn_84 : decode cX4_joinedOn 84 = .ok (.isub, 1) := by decide +kernel
theorem dX4_joinedOn_85 : decode cX4_joinedOn 85 = .ok (.iconst 2, 1) := by decide +kernel
theorem dX4_joinedOn_86 : decode cX4_joinedOn 86 = .ok (.idiv, 1) := by decide +kernel
theorem dX4_joinedOn_87 : decode cX4_joinedOn 87 = .ok (.iadd, 1) := by decide +kernel
theorem dX4_joinedOn_88 : decode cX4_joinedOn 88 = .ok (.ireturn, 1) := by decide +kernel
theorem dX4_joinedOn_89 : decode cX4_joinedOn 89 = .ok (.iload 6, 2) := by decide +kernel
theorem dX4_joinedOn_91 : decode cX4_joinedOn 91 = .ok (.iload 4, 2) := by decide +kernel
theorem dX4_joinedOn_93 : decode cX4_joinedOn 93 = .ok (.if_icmp .le 8, 3) := by decide +kernel
theorem dX4_joinedOn_96 : decode cX4_joinedOn 96 = .ok (.iload 6, 2) := by decide +kernel
theorem dX4_joinedOn_98 : decode cX4_joinedOn 98 = .ok (.goto 5, 3) := by decide +kernel
theorem dX4_joinedOn_101 : decode cX4_joinedOn 101 = .ok (.iload 4, 2) := by decide +kernel
theorem dX4_joinedOn_103 : decode cX4_joinedOn 103 = .ok (.istore 7, 2) := by decide +kernel
theorem dX4_joinedOn_105 : decode cX4_joinedOn 105 = .ok (.iload_n 3, 1) := by decide +kernel
theorem dX4_joinedOn_106 : decode cX4_joinedOn 106 = .ok (.iconst 3, 1) := by decide +kernel
theorem dX4_joinedOn_107 : decode cX4_joinedOn 107 = .ok (.if_icmp .ne 21, 3) := by decide +kernel
theorem dX4_joinedOn_110 : decode cX4_joinedOn 110 = .ok (.iload 7, 2) := by decide +kernel
theorem dX4_joinedOn_112 : decode cX4_joinedOn 112 = .ok (.iload 4, 2) := by decide +kernel
theorem dX4_joinedOn_114 : decode cX4_joinedOn 114 = .ok (.bipush 20, 2) := by decide +kernel
theorem dX4_joinedOn_116 : decode cX4_joinedOn 116 = .ok (.iadd, 1) := by decide +kernel
theorem dX4_joinedOn_117 : decode cX4_joinedOn 117 = .ok (.if_icmp .le 11, 3) := by decide +kernel
theorem dX4_joinedOn_120 : decode cX4_joinedOn 120 = .ok (.iload 4, 2) := by decide +kernel
theorem dX4_joinedOn_122 : decode cX4_joinedOn 122 = .ok (.bipush 20, 2) := by decide +kernel
theorem dX4_joinedOn_124 : decode cX4_joinedOn 124 = .ok (.iadd, 1) := by decide +kernel
theorem dX4_joinedOn_125 : decode cX4_joinedOn 125 = .ok (.goto 5, 3) := by decide +kernel
theorem dX4_joinedOn_128 : decode cX4_joinedOn 128 = .ok (.iload 7, 2) := by decide +kernel
theorem dX4_joinedOn_130 : decode cX4_joinedOn 130 = .ok (.ireturn, 1) := by decide +kernel
theorem dX4_speedOn_0 : decode cX4_speedOn 0 = .ok (.aload_n 0, 1) := by decide +kernel
theorem dX4_speedOn_1 : decode cX4_speedOn 1 = .ok (.getfield 7, 3) := by decide +kernel
theorem dX4_speedOn_4 : decode cX4_speedOn 4 = .ok (.iload_n 1, 1) := by decide +kernel
theorem dX4_speedOn_5 : decode cX4_speedOn 5 = .ok (.bipush 35, 2) := by decide +kernel
theorem dX4_speedOn_7 : decode cX4_speedOn 7 = .ok (.iadd, 1) := by decide +kernel
theorem dX4_speedOn_8 : decode cX4_speedOn 8 = .ok (.iaload, 1) := by decide +kernel
theorem dX4_speedOn_9 : decode cX4_speedOn 9 = .ok (.aload_n 0, 1) := by decide +kernel
theorem dX4_speedOn_10 : decode cX4_speedOn 10 = .ok (.getfield 7, 3) := by decide +kernel
theorem dX4_speedOn_13 : decode cX4_speedOn 13 = .ok (.iload_n 1, 1) := by decide +kernel
theorem dX4_speedOn_14 : decode cX4_speedOn 14 = .ok (.bipush 34, 2) := by decide +kernel
theorem dX4_speedOn_16 : decode cX4_speedOn 16 = .ok (.iadd, 1) := by decide +kernel
theorem dX4_speedOn_17 : decode cX4_speedOn 17 = .ok (.iaload, 1) := by decide +kernel
theorem dX4_speedOn_18 : decode cX4_speedOn 18 = .ok (.iconst 5, 1) := by decide +kernel
theorem dX4_speedOn_19 : decode cX4_speedOn 19 = .ok (.iadd, 1) := by decide +kernel
theorem dX4_speedOn_20 : decode cX4_speedOn 20 = .ok (.idiv, 1) := by decide +kernel
theorem dX4_speedOn_21 : decode cX4_speedOn 21 = .ok (.ireturn, 1) := by decide +kernel
theorem dX4_actOn_0 : decode cX4_actOn 0 = .ok (.iload_n 2, 1) := by decide +kernel
theorem dX4_actOn_1 : decode cX4_actOn 1 = .ok (.bipush 100, 2) := by decide +kernel
theorem dX4_actOn_3 : decode cX4_actOn 3 = .ok (.if_icmp .ge 27, 3) := by decide +kernel
theorem dX4_actOn_6 : decode cX4_actOn 6 = .ok (.aload_n 0, 1) := by decide +kernel
theorem dX4_actOn_7 : decode cX4_actOn 7 = .ok (.getfield 7, 3) := by decide +kernel
theorem dX4_actOn_10 : decode cX4_actOn 10 = .ok (.iload_n 1, 1) := by decide +kernel
theorem dX4_actOn_11 : decode cX4_actOn 11 = .ok (.bipush 35, 2) := by decide +kernel
theorem dX4_actOn_13 : decode cX4_actOn 13 = .ok (.iadd, 1) := by decide +kernel
theorem dX4_actOn_14 : decode cX4_actOn 14 = .ok (.dup2, 1) := by decide +kernel
theorem dX4_actOn_15 : decode cX4_actOn 15 = .ok (.iaload, 1) := by decide +kernel
theorem dX4_actOn_16 : decode cX4_actOn 16 = .ok (.iload_n 3, 1) := by decide +kernel
theorem dX4_actOn_17 : decode cX4_actOn 17 = .ok (.ifCond .eq 7, 3) := by decide +kernel
theorem dX4_actOn_20 : decode cX4_actOn 20 = .ok (.iconst 0, 1) := by decide +kernel
theorem dX4_actOn_21 : decode cX4_actOn 21 = .ok (.goto 4, 3) := by decide +kernel
theorem dX4_actOn_24 : decode cX4_actOn 24 = .ok (.iload_n 2, 1) := by decide +kernel
theorem dX4_actOn_25 : decode cX4_actOn 25 = .ok (.iadd, 1) := by decide +kernel
theorem dX4_actOn_26 : decode cX4_actOn 26 = .ok (.iastore, 1) := by decide +kernel
theorem dX4_actOn_27 : decode cX4_actOn 27 = .ok (.goto 194, 3) := by decide +kernel
theorem dX4_actOn_30 : decode cX4_actOn 30 = .ok (.iload_n 2, 1) := by decide +kernel
theorem dX4_actOn_31 : decode cX4_actOn 31 = .ok (.sipush 200, 3) := by decide +kernel
theorem dX4_actOn_34 : decode cX4_actOn 34 = .ok (.if_icmp .ge 84, 3) := by decide +kernel
theorem dX4_actOn_37 : decode cX4_actOn 37 = .ok (.aload_n 0, 1) := by decide +kernel
theorem dX4_actOn_38 : decode cX4_actOn 38 = .ok (.getfield 7, 3) := by decide +kernel
theorem dX4_actOn_41 : decode cX4_actOn 41 = .ok (.iload_n 1, 1) := by decide +kernel
theorem dX4_actOn_42 : decode cX4_actOn 42 = .ok (.bipush 35, 2) := by decide +kernel
theorem dX4_actOn_44 : decode cX4_actOn 44 = .ok (.iadd, 1) := by decide +kernel
theorem dX4_actOn_45 : decode cX4_actOn 45 = .ok (.iaload, 1) := by decide +kernel
theorem dX4_actOn_46 : decode cX4_actOn 46 = .ok (.istore 4, 2) := by decide +kernel
theorem dX4_actOn_48 : decode cX4_actOn 48 = .ok (.iload_n 2, 1) := by decide +kernel
theorem dX4_actOn_49 : decode cX4_actOn 49 = .ok (.bipush 100, 2) := by decide +kernel
theorem dX4_actOn_51 : decode cX4_actOn 51 = .ok (.isub, 1) := by decide +kernel
theorem dX4_actOn_52 : decode cX4_actOn 52 = .ok (.iload 4, 2) := by decide +kernel
theorem dX4_actOn_54 : decode cX4_actOn 54 = .ok (.if_icmp .le 8, 3) := by decide +kernel
theorem dX4_actOn_57 : decode cX4_actOn 57 = .ok (.iload 4, 2) := by decide +kernel
theorem dX4_actOn_59 : decode cX4_actOn 59 = .ok (.goto 7, 3) := by decide +kernel
theorem dX4_actOn_62 : decode cX4_actOn 62 = .ok (.iload_n 2, 1) := by decide +kernel
theorem dX4_actOn_63 : decode cX4_actOn 63 = .ok (.bipush 100, 2) := by decide +kernel
theorem dX4_actOn_65 : decode cX4_actOn 65 = .ok (.isub, 1) := by decide +kernel
theorem dX4_actOn_66 : decode cX4_actOn 66 = .ok (.istore 5, 2) := by decide +kernel
theorem dX4_actOn_68 : decode cX4_actOn 68 = .ok (.aload_n 0, 1) := by decide +kernel
theorem dX4_actOn_69 : decode cX4_actOn 69 = .ok (.getfield 7, 3) := by decide +kernel
theorem dX4_actOn_72 : decode cX4_actOn 72 = .ok (.iload_n 1, 1) := by decide +kernel
theorem dX4_actOn_73 : decode cX4_actOn 73 = .ok (.bipush 35, 2) := by decide +kernel
theorem dX4_actOn_75 : decode cX4_actOn 75 = .ok (.iadd, 1) := by decide +kernel
theorem dX4_actOn_76 : decode cX4_actOn 76 = .ok (.iload 4, 2) := by decide +kernel
theorem dX4_actOn_78 : decode cX4_actOn 78 = .ok (.iload 5, 2) := by decide +kernel
theorem dX4_actOn_80 : decode cX4_actOn 80 = .ok (.isub, 1) := by decide +kernel
theorem dX4_actOn_81 : decode cX4_actOn 81 = .ok (.iastore, 1) := by decide +kernel
theorem dX4_actOn_82 : decode cX4_actOn 82 = .ok (.aload_n 0, 1) := by decide +kernel
theorem dX4_actOn_83 : decode cX4_actOn 83 = .ok (.getfield 7, 3) := by decide +kernel
theorem dX4_actOn_86 : decode cX4_actOn 86 = .ok (.iload_n 1, 1) := by decide +kernel
theorem dX4_actOn_87 : decode cX4_actOn 87 = .ok (.bipush 37, 2) := by decide +kernel
theorem dX4_actOn_89 : decode cX4_actOn 89 = .ok (.iadd, 1) := by decide +kernel
theorem dX4_actOn_90 : decode cX4_actOn 90 = .ok (.dup2, 1) := by decide +kernel
theorem dX4_actOn_91 : decode cX4_actOn 91 = .ok (.iaload, 1) := by decide +kernel
theorem dX4_actOn_92 : decode cX4_actOn 92 = .ok (.iload 5, 2) := by decide +kernel
theorem dX4_actOn_94 : decode cX4_actOn 94 = .ok (.iadd, 1) := by decide +kernel
theorem dX4_actOn_95 : decode cX4_actOn 95 = .ok (.iastore, 1) := by decide +kernel
theorem dX4_actOn_96 : decode cX4_actOn 96 = .ok (.aload_n 0, 1) := by decide +kernel
theorem dX4_actOn_97 : decode cX4_actOn 97 = .ok (.getfield 7, 3) := by decide +kernel
theorem dX4_actOn_100 : decode cX4_actOn 100 = .ok (.iload_n 1, 1) := by decide +kernel
theorem dX4_actOn_101 : decode cX4_actOn 101 = .ok (.bipush 38, 2) := by decide +kernel
theorem dX4_actOn_103 : decode cX4_actOn 103 = .ok (.iadd, 1) := by decide +kernel
theorem dX4_actOn_104 : decode cX4_actOn 104 = .ok (.dup2, 1) := by decide +kernel
theorem dX4_actOn_105 : decode cX4_actOn 105 = .ok (.iaload, 1) := by decide +kernel
theorem dX4_actOn_106 : decode cX4_actOn 106 = .ok (.iload_n 2, 1) := by decide +kernel
theorem dX4_actOn_107 : decode cX4_actOn 107 = .ok (.bipush 100, 2) := by decide +kernel
theorem dX4_actOn_109 : decode cX4_actOn 109 = .ok (.isub, 1) := by decide +kernel
theorem dX4_actOn_110 : decode cX4_actOn 110 = .ok (.iload 5, 2) := by decide +kernel
theorem dX4_actOn_112 : decode cX4_actOn 112 = .ok (.isub, 1) := by decide +kernel
theorem dX4_actOn_113 : decode cX4_actOn 113 = .ok (.iadd, 1) := by decide +kernel
theorem dX4_actOn_114 : decode cX4_actOn 114 = .ok (.iastore, 1) := by decide +kernel
theorem dX4_actOn_115 : decode cX4_actOn 115 = .ok (.goto 106, 3) := by decide +kernel
theorem dX4_actOn_118 : decode cX4_actOn 118 = .ok (.iload_n 2, 1) := by decide +kernel
theorem dX4_actOn_119 : decode cX4_actOn 119 = .ok (.sipush 200, 3) := by decide +kernel
theorem dX4_actOn_122 : decode cX4_actOn 122 = .ok (.isub, 1) := by decide +kernel
theorem dX4_actOn_123 : decode cX4_actOn 123 = .ok (.aload_n 0, 1) := by decide +kernel
theorem dX4_actOn_124 : decode cX4_actOn 124 = .ok (.getfield 7, 3) := by decide +kernel
theorem dX4_actOn_127 : decode cX4_actOn 127 = .ok (.iload_n 1, 1) := by decide +kernel
theorem dX4_actOn_128 : decode cX4_actOn 128 = .ok (.bipush 16, 2) := by decide +kernel
theorem dX4_actOn_130 : decode cX4_actOn 130 = .ok (.iadd, 1) := by decide +kernel
theorem dX4_actOn_131 : decode cX4_actOn 131 = .ok (.iaload, 1) := by decide +kernel
theorem dX4_actOn_132 : decode cX4_actOn 132 = .ok (.if_icmp .ge 89, 3) := by decide +kernel
theorem dX4_actOn_135 : decode cX4_actOn 135 = .ok (.iload_n 2, 1) := by decide +kernel
theorem dX4_actOn_136 : decode cX4_actOn 136 = .ok (.sipush 200, 3) := by decide +kernel
theorem dX4_actOn_139 : decode cX4_actOn 139 = .ok (.isub, 1) := by decide +kernel
theorem dX4_actOn_140 : decode cX4_actOn 140 = .ok (.aload_n 0, 1) := by decide +kernel
theorem dX4_actOn_141 : decode cX4_actOn 141 = .ok (.getfield 25, 3) := by decide +kernel
theorem dX4_actOn_144 : decode cX4_actOn 144 = .ok (.if_icmp .eq 77, 3) := by decide +kernel
theorem dX4_actOn_147 : decode cX4_actOn 147 = .ok (.iload_n 2, 1) := by decide +kernel
theorem dX4_actOn_148 : decode cX4_actOn 148 = .ok (.sipush 200, 3) := by decide +kernel
theorem dX4_actOn_151 : decode cX4_actOn 151 = .ok (.isub, 1) := by decide +kernel
theorem dX4_actOn_152 : decode cX4_actOn 152 = .ok (.istore 4, 2) := by decide +kernel
theorem dX4_actOn_154 : decode cX4_actOn 154 = .ok (.aload_n 0, 1) := by decide +kernel
theorem dX4_actOn_155 : decode cX4_actOn 155 = .ok (.getfield 7, 3) := by decide +kernel
theorem dX4_actOn_158 : decode cX4_actOn 158 = .ok (.iload_n 1, 1) := by decide +kernel
theorem dX4_actOn_159 : decode cX4_actOn 159 = .ok (.bipush 12, 2) := by decide +kernel
theorem dX4_actOn_161 : decode cX4_actOn 161 = .ok (.iadd, 1) := by decide +kernel
theorem dX4_actOn_162 : decode cX4_actOn 162 = .ok (.iload 4, 2) := by decide +kernel
theorem dX4_actOn_164 : decode cX4_actOn 164 = .ok (.iadd, 1) := by decide +kernel
theorem dX4_actOn_165 : decode cX4_actOn 165 = .ok (.iaload, 1) := by decide +kernel
theorem dX4_actOn_166 : decode cX4_actOn 166 = .ok (.aload_n 0, 1) := by decide +kernel
theorem dX4_actOn_167 : decode cX4_actOn 167 = .ok (.getfield 7, 3) := by decide +kernel
theorem dX4_actOn_170 : decode cX4_actOn 170 = .ok (.iload_n 1, 1) := by decide +kernel
theorem dX4_actOn_171 : decode cX4_actOn 171 = .ok (.bipush 35, 2) := by decide +kernel
theorem dX4_actOn_173 : decode cX4_actOn 173 = .ok (.iadd, 1) := by decide +kernel
theorem dX4_actOn_174 : decode cX4_actOn 174 = .ok (.iaload, 1) := by decide +kernel
theorem dX4_actOn_175 : decode cX4_actOn 175 = .ok (.iadd, 1) := by decide +kernel
theorem dX4_actOn_176 : decode cX4_actOn 176 = .ok (.istore 5, 2) := by decide +kernel
theorem dX4_actOn_178 : decode cX4_actOn 178 = .ok (.aload_n 0, 1) := by decide +kernel
theorem dX4_actOn_179 : decode cX4_actOn 179 = .ok (.getfield 7, 3) := by decide +kernel
theorem dX4_actOn_182 : decode cX4_actOn 182 = .ok (.iload_n 1, 1) := by decide +kernel
theorem dX4_actOn_183 : decode cX4_actOn 183 = .ok (.bipush 12, 2) := by decide +kernel
theorem dX4_actOn_185 : decode cX4_actOn 185 = .ok (.iadd, 1) := by decide +kernel
theorem dX4_actOn_186 : decode cX4_actOn 186 = .ok (.iload 4, 2) := by decide +kernel
theorem dX4_actOn_188 : decode cX4_actOn 188 = .ok (.iadd, 1) := by decide +kernel
theorem dX4_actOn_189 : decode cX4_actOn 189 = .ok (.aload_n 0, 1) := by decide +kernel
theorem dX4_actOn_190 : decode cX4_actOn 190 = .ok (.iload_n 1, 1) := by decide +kernel
theorem dX4_actOn_191 : decode cX4_actOn 191 = .ok (.iload 4, 2) := by decide +kernel
theorem dX4_actOn_193 : decode cX4_actOn 193 = .ok (.invokevirtual 125, 3) := by decide +kernel
theorem dX4_actOn_196 : decode cX4_actOn 196 = .ok (.iastore, 1) := by decide +kernel
theorem dX4_actOn_197 : decode cX4_actOn 197 = .ok (.aload_n 0, 1) := by decide +kernel
theorem dX4_actOn_198 : decode cX4_actOn 198 = .ok (.getfield 7, 3) := by decide +kernel
theorem dX4_actOn_201 : decode cX4_actOn 201 = .ok (.iload_n 1, 1) := by decide +kernel
theorem dX4_actOn_202 : decode cX4_actOn 202 = .ok (.bipush 35, 2) := by decide +kernel
theorem dX4_actOn_204 : decode cX4_actOn 204 = .ok (.iadd, 1) := by decide +kernel
theorem dX4_actOn_205 : decode cX4_actOn 205 = .ok (.iload 5, 2) := by decide +kernel
theorem dX4_actOn_207 : decode cX4_actOn 207 = .ok (.aload_n 0, 1) := by decide +kernel
theorem dX4_actOn_208 : decode cX4_actOn 208 = .ok (.getfield 7, 3) := by decide +kernel
theorem dX4_actOn_211 : decode cX4_actOn 211 = .ok (.iload_n 1, 1) := by decide +kernel
theorem dX4_actOn_212 : decode cX4_actOn 212 = .ok (.bipush 12, 2) := by decide +kernel
theorem dX4_actOn_214 : decode cX4_actOn 214 = .ok (.iadd, 1) := by decide +kernel
theorem dX4_actOn_215 : decode cX4_actOn 215 = .ok (.iload 4, 2) := by decide +kernel
theorem dX4_actOn_217 : decode cX4_actOn 217 = .ok (.iadd, 1) := by decide +kernel
theorem dX4_actOn_218 : decode cX4_actOn 218 = .ok (.iaload, 1) := by decide +kernel
theorem dX4_actOn_219 : decode cX4_actOn 219 = .ok (.isub, 1) := by decide +kernel
theorem dX4_actOn_220 : decode cX4_actOn 220 = .ok (.iastore, 1) := by decide +kernel
theorem dX4_actOn_221 : decode cX4_actOn 221 = .ok (.return_, 1) := by decide +kernel
theorem dX4_lossesOn_0 : decode cX4_lossesOn 0 = .ok (.iconst 0, 1) := by decide +kernel
theorem dX4_lossesOn_1 : decode cX4_lossesOn 1 = .ok (.istore_n 2, 1) := by decide +kernel
theorem dX4_lossesOn_2 : decode cX4_lossesOn 2 = .ok (.iload_n 2, 1) := by decide +kernel
theorem dX4_lossesOn_3 : decode cX4_lossesOn 3 = .ok (.aload_n 0, 1) := by decide +kernel
theorem dX4_lossesOn_4 : decode cX4_lossesOn 4 = .ok (.getfield 7, 3) := by decide +kernel
theorem dX4_lossesOn_7 : decode cX4_lossesOn 7 = .ok (.iload_n 1, 1) := by decide +kernel
theorem dX4_lossesOn_8 : decode cX4_lossesOn 8 = .ok (.bipush 16, 2) := by decide +kernel
theorem dX4_lossesOn_10 : decode cX4_lossesOn 10 = .ok (.iadd, 1) := by decide +kernel
theorem dX4_lossesOn_11 : decode cX4_lossesOn 11 = .ok (.iaload, 1) := by decide +kernel
theorem dX4_lossesOn_12 : decode cX4_lossesOn 12 = .ok (.if_icmp .ge 75, 3) := by decide +kernel
theorem dX4_lossesOn_15 : decode cX4_lossesOn 15 = .ok (.aload_n 0, 1) := by decide +kernel
theorem dX4_lossesOn_16 : decode cX4_lossesOn 16 = .ok (.getfield 7, 3) := by decide +kernel
theorem dX4_lossesOn_19 : decode cX4_lossesOn 19 = .ok (.iload_n 1, 1) := by decide +kernel
theorem dX4_lossesOn_20 : decode cX4_lossesOn 20 = .ok (.bipush 8, 2) := by decide +kernel
theorem dX4_lossesOn_22 : decode cX4_lossesOn 22 = .ok (.iadd, 1) := by decide +kernel
theorem dX4_lossesOn_23 : decode cX4_lossesOn 23 = .ok (.iload_n 2, 1) := by decide +kernel
theorem dX4_lossesOn_24 : decode cX4_lossesOn 24 = .ok (.iadd, 1) := by decide +kernel
theorem dX4_lossesOn_25 : decode cX4_lossesOn 25 = .ok (.iaload, 1) := by decide +kernel
theorem dX4_lossesOn_26 : decode cX4_lossesOn 26 = .ok (.istore_n 3, 1) := by decide +kernel
theorem dX4_lossesOn_27 : decode cX4_lossesOn 27 = .ok (.aload_n 0, 1) := by decide +kernel
theorem dX4_lossesOn_28 : decode cX4_lossesOn 28 = .ok (.getfield 7, 3) := by decide +kernel
theorem dX4_lossesOn_31 : decode cX4_lossesOn 31 = .ok (.iload_n 1, 1) := by decide +kernel
theorem dX4_lossesOn_32 : decode cX4_lossesOn 32 = .ok (.bipush 12, 2) := by decide +kernel
theorem dX4_lossesOn_34 : decode cX4_lossesOn 34 = .ok (.iadd, 1) := by decide +kernel
theorem dX4_lossesOn_35 : decode cX4_lossesOn 35 = .ok (.iload_n 2, 1) := by decide +kernel
theorem dX4_lossesOn_36 : decode cX4_lossesOn 36 = .ok (.iadd, 1) := by decide +kernel
theorem dX4_lossesOn_37 : decode cX4_lossesOn 37 = .ok (.iaload, 1) := by decide +kernel
theorem dX4_lossesOn_38 : decode cX4_lossesOn 38 = .ok (.istore 4, 2) := by decide +kernel
theorem dX4_lossesOn_40 : decode cX4_lossesOn 40 = .ok (.iload_n 3, 1) := by decide +kernel
theorem dX4_lossesOn_41 : decode cX4_lossesOn 41 = .ok (.iload 4, 2) := by decide +kernel
theorem dX4_lossesOn_43 : decode cX4_lossesOn 43 = .ok (.if_icmp .le 8, 3) := by decide +kernel
theorem dX4_lossesOn_46 : decode cX4_lossesOn 46 = .ok (.iload 4, 2) := by decide +kernel
theorem dX4_lossesOn_48 : decode cX4_lossesOn 48 = .ok (.goto 4, 3) := by decide +kernel
theorem dX4_lossesOn_51 : decode cX4_lossesOn 51 = .ok (.iload_n 3, 1) := by decide +kernel
theorem dX4_lossesOn_52 : decode cX4_lossesOn 52 = .ok (.istore 5, 2) := by decide +kernel
theorem dX4_lossesOn_54 : decode cX4_lossesOn 54 = .ok (.aload_n 0, 1) := by decide +kernel
theorem dX4_lossesOn_55 : decode cX4_lossesOn 55 = .ok (.getfield 7, 3) := by decide +kernel
theorem dX4_lossesOn_58 : decode cX4_lossesOn 58 = .ok (.iload_n 1, 1) := by decide +kernel
theorem dX4_lossesOn_59 : decode cX4_lossesOn 59 = .ok (.bipush 12, 2) := by decide +kernel
theorem dX4_lossesOn_61 : decode cX4_lossesOn 61 = .ok (.iadd, 1) := by decide +kernel
theorem dX4_lossesOn_62 : decode cX4_lossesOn 62 = .ok (.iload_n 2, 1) := by decide +kernel
theorem dX4_lossesOn_63 : decode cX4_lossesOn 63 = .ok (.iadd, 1) := by decide +kernel
theorem dX4_lossesOn_64 : decode cX4_lossesOn 64 = .ok (.iload 4, 2) := by decide +kernel
theorem dX4_lossesOn_66 : decode cX4_lossesOn 66 = .ok (.iload 5, 2) := by decide +kernel
theorem dX4_lossesOn_68 : decode cX4_lossesOn 68 = .ok (.isub, 1) := by decide +kernel
theorem dX4_lossesOn_69 : decode cX4_lossesOn 69 = .ok (.iastore, 1) := by decide +kernel
theorem dX4_lossesOn_70 : decode cX4_lossesOn 70 = .ok (.aload_n 0, 1) := by decide +kernel
theorem dX4_lossesOn_71 : decode cX4_lossesOn 71 = .ok (.dup, 1) := by decide +kernel
theorem dX4_lossesOn_72 : decode cX4_lossesOn 72 = .ok (.getfield 128, 3) := by decide +kernel
theorem dX4_lossesOn_75 : decode cX4_lossesOn 75 = .ok (.iload 5, 2) := by decide +kernel
theorem dX4_lossesOn_77 : decode cX4_lossesOn 77 = .ok (.iadd, 1) := by decide +kernel
theorem dX4_lossesOn_78 : decode cX4_lossesOn 78 = .ok (.putfield 128, 3) := by decide +kernel
theorem dX4_lossesOn_81 : decode cX4_lossesOn 81 = .ok (.iinc 2 1, 3) := by decide +kernel
theorem dX4_lossesOn_84 : decode cX4_lossesOn 84 = .ok (.goto (-82), 3) := by decide +kernel
theorem dX4_lossesOn_87 : decode cX4_lossesOn 87 = .ok (.aload_n 0, 1) := by decide +kernel
theorem dX4_lossesOn_88 : decode cX4_lossesOn 88 = .ok (.getfield 7, 3) := by decide +kernel
theorem dX4_lossesOn_91 : decode cX4_lossesOn 91 = .ok (.iload_n 1, 1) := by decide +kernel
theorem dX4_lossesOn_92 : decode cX4_lossesOn 92 = .ok (.bipush 36, 2) := by decide +kernel
theorem dX4_lossesOn_94 : decode cX4_lossesOn 94 = .ok (.iadd, 1) := by decide +kernel
theorem dX4_lossesOn_95 : decode cX4_lossesOn 95 = .ok (.dup2, 1) := by decide +kernel
theorem dX4_lossesOn_96 : decode cX4_lossesOn 96 = .ok (.iaload, 1) := by decide +kernel
theorem dX4_lossesOn_97 : decode cX4_lossesOn 97 = .ok (.iconst 1, 1) := by decide +kernel
theorem dX4_lossesOn_98 : decode cX4_lossesOn 98 = .ok (.iadd, 1) := by decide +kernel
theorem dX4_lossesOn_99 : decode cX4_lossesOn 99 = .ok (.iastore, 1) := by decide +kernel
theorem dX4_lossesOn_100 : decode cX4_lossesOn 100 = .ok (.aload_n 0, 1) := by decide +kernel
theorem dX4_lossesOn_101 : decode cX4_lossesOn 101 = .ok (.iload_n 1, 1) := by decide +kernel
theorem dX4_lossesOn_102 : decode cX4_lossesOn 102 = .ok (.invokevirtual 131, 3) := by decide +kernel
theorem dX4_lossesOn_105 : decode cX4_lossesOn 105 = .ok (.istore_n 2, 1) := by decide +kernel
theorem dX4_lossesOn_106 : decode cX4_lossesOn 106 = .ok (.aload_n 0, 1) := by decide +kernel
theorem dX4_lossesOn_107 : decode cX4_lossesOn 107 = .ok (.iload_n 2, 1) := by decide +kernel
theorem dX4_lossesOn_108 : decode cX4_lossesOn 108 = .ok (.aload_n 0, 1) := by decide +kernel
theorem dX4_lossesOn_109 : decode cX4_lossesOn 109 = .ok (.getfield 134, 3) := by decide +kernel
theorem dX4_lossesOn_112 : decode cX4_lossesOn 112 = .ok (.if_icmp .le 7, 3) := by decide +kernel
theorem dX4_lossesOn_115 : decode cX4_lossesOn 115 = .ok (.iload_n 2, 1) := by decide +kernel
theorem dX4_lossesOn_116 : decode cX4_lossesOn 116 = .ok (.goto 7, 3) := by decide +kernel
theorem dX4_lossesOn_119 : decode cX4_lossesOn 119 = .ok (.aload_n 0, 1) := by decide +kernel
theorem dX4_lossesOn_120 : decode cX4_lossesOn 120 = .ok (.getfield 134, 3) := by decide +kernel
theorem dX4_lossesOn_123 : decode cX4_lossesOn 123 = .ok (.putfield 134, 3) := by decide +kernel
theorem dX4_lossesOn_126 : decode cX4_lossesOn 126 = .ok (.return_, 1) := by decide +kernel
theorem dX4_tickOn_0 : decode cX4_tickOn 0 = .ok (.aload_n 0, 1) := by decide +kernel
theorem dX4_tickOn_1 : decode cX4_tickOn 1 = .ok (.getfield 7, 3) := by decide +kernel
theorem dX4_tickOn_4 : decode cX4_tickOn 4 = .ok (.iload_n 1, 1) := by decide +kernel
theorem dX4_tickOn_5 : decode cX4_tickOn 5 = .ok (.bipush 33, 2) := by decide +kernel
theorem dX4_tickOn_7 : decode cX4_tickOn 7 = .ok (.iadd, 1) := by decide +kernel
theorem dX4_tickOn_8 : decode cX4_tickOn 8 = .ok (.iaload, 1) := by decide +kernel
theorem dX4_tickOn_9 : decode cX4_tickOn 9 = .ok (.istore_n 3, 1) := by decide +kernel
theorem dX4_tickOn_10 : decode cX4_tickOn 10 = .ok (.iload_n 3, 1) := by decide +kernel
theorem dX4_tickOn_11 : decode cX4_tickOn 11 = .ok (.ifCond .le 48, 3) := by decide +kernel
theorem dX4_tickOn_14 : decode cX4_tickOn 14 = .ok (.aload_n 0, 1) := by decide +kernel
theorem dX4_tickOn_15 : decode cX4_tickOn 15 = .ok (.getfield 7, 3) := by decide +kernel
theorem dX4_tickOn_18 : decode cX4_tickOn 18 = .ok (.iload_n 1, 1) := by decide +kernel
theorem dX4_tickOn_19 : decode cX4_tickOn 19 = .ok (.bipush 36, 2) := by decide +kernel
theorem dX4_tickOn_21 : decode cX4_tickOn 21 = .ok (.iadd, 1) := by decide +kernel
theorem dX4_tickOn_22 : decode cX4_tickOn 22 = .ok (.iaload, 1) := by decide +kernel
theorem dX4_tickOn_23 : decode cX4_tickOn 23 = .ok (.iload_n 3, 1) := by decide +kernel
theorem dX4_tickOn_24 : decode cX4_tickOn 24 = .ok (.irem, 1) := by decide +kernel
theorem dX4_tickOn_25 : decode cX4_tickOn 25 = .ok (.aload_n 0, 1) := by decide +kernel
theorem dX4_tickOn_26 : decode cX4_tickOn 26 = .ok (.getfield 29, 3) := by decide +kernel
theorem dX4_tickOn_29 : decode cX4_tickOn 29 = .ok (.if_icmp .eq 30, 3) := by decide +kernel
theorem dX4_tickOn_32 : decode cX4_tickOn 32 = .ok (.aload_n 0, 1) := by decide +kernel
theorem dX4_tickOn_33 : decode cX4_tickOn 33 = .ok (.iload_n 1, 1) := by decide +kernel
theorem dX4_tickOn_34 : decode cX4_tickOn 34 = .ok (.aload_n 0, 1) := by decide +kernel
theorem dX4_tickOn_35 : decode cX4_tickOn 35 = .ok (.getfield 7, 3) := by decide +kernel
theorem dX4_tickOn_38 : decode cX4_tickOn 38 = .ok (.iload_n 1, 1) := by decide +kernel
theorem dX4_tickOn_39 : decode cX4_tickOn 39 = .ok (.bipush 17, 2) := by decide +kernel
theorem dX4_tickOn_41 : decode cX4_tickOn 41 = .ok (.iadd, 1) := by decide +kernel
theorem dX4_tickOn_42 : decode cX4_tickOn 42 = .ok (.aload_n 0, 1) := by decide +kernel
theorem dX4_tickOn_43 : decode cX4_tickOn 43 = .ok (.getfield 7, 3) := by decide +kernel
theorem dX4_tickOn_46 : decode cX4_tickOn 46 = .ok (.iload_n 1, 1) := by decide +kernel
theorem dX4_tickOn_47 : decode cX4_tickOn 47 = .ok (.bipush 36, 2) := by decide +kernel
theorem dX4_tickOn_49 : decode cX4_tickOn 49 = .ok (.iadd, 1) := by decide +kernel
theorem dX4_tickOn_50 : decode cX4_tickOn 50 = .ok (.iaload, 1) := by decide +kernel
theorem dX4_tickOn_51 : decode cX4_tickOn 51 = .ok (.iload_n 3, 1) := by decide +kernel
theorem dX4_tickOn_52 : decode cX4_tickOn 52 = .ok (.irem, 1) := by decide +kernel
theorem dX4_tickOn_53 : decode cX4_tickOn 53 = .ok (.iadd, 1) := by decide +kernel
theorem dX4_tickOn_54 : decode cX4_tickOn 54 = .ok (.iaload, 1) := by decide +kernel
theorem dX4_tickOn_55 : decode cX4_tickOn 55 = .ok (.iload_n 2, 1) := by decide +kernel
theorem dX4_tickOn_56 : decode cX4_tickOn 56 = .ok (.invokevirtual 137, 3) := by decide +kernel
theorem dX4_tickOn_59 : decode cX4_tickOn 59 = .ok (.aload_n 0, 1) := by decide +kernel
theorem dX4_tickOn_60 : decode cX4_tickOn 60 = .ok (.iload_n 1, 1) := by decide +kernel
theorem dX4_tickOn_61 : decode cX4_tickOn 61 = .ok (.invokevirtual 141, 3) := by decide +kernel
theorem dX4_tickOn_64 : decode cX4_tickOn 64 = .ok (.return_, 1) := by decide +kernel
theorem dX4_swingOn_0 : decode cX4_swingOn 0 = .ok (.aload_n 0, 1) := by decide +kernel
theorem dX4_swingOn_1 : decode cX4_swingOn 1 = .ok (.getfield 7, 3) := by decide +kernel
theorem dX4_swingOn_4 : decode cX4_swingOn 4 = .ok (.iload_n 1, 1) := by decide +kernel
theorem dX4_swingOn_5 : decode cX4_swingOn 5 = .ok (.bipush 35, 2) := by decide +kernel
theorem dX4_swingOn_7 : decode cX4_swingOn 7 = .ok (.iadd, 1) := by decide +kernel
theorem dX4_swingOn_8 : decode cX4_swingOn 8 = .ok (.iaload, 1) := by decide +kernel
theorem dX4_swingOn_9 : decode cX4_swingOn 9 = .ok (.istore_n 2, 1) := by decide +kernel
theorem dX4_swingOn_10 : decode cX4_swingOn 10 = .ok (.iconst 0, 1) := by decide +kernel
theorem dX4_swingOn_11 : decode cX4_swingOn 11 = .ok (.istore_n 3, 1) := by decide +kernel
theorem dX4_swingOn_12 : decode cX4_swingOn 12 = .ok (.iload_n 3, 1) := by decide +kernel
theorem dX4_swingOn_13 : decode cX4_swingOn 13 = .ok (.aload_n 0, 1) := by decide +kernel
theorem dX4_swingOn_14 : decode cX4_swingOn 14 = .ok (.getfield 7, 3) := by decide +kernel
theorem dX4_swingOn_17 : decode cX4_swingOn 17 = .ok (.iload_n 1, 1) := by decide +kernel
theorem dX4_swingOn_18 : decode cX4_swingOn 18 = .ok (.bipush 16, 2) := by decide +kernel
theorem dX4_swingOn_20 : decode cX4_swingOn 20 = .ok (.iadd, 1) := by decide +kernel
theorem dX4_swingOn_21 : decode cX4_swingOn 21 = .ok (.iaload, 1) := by decide +kernel
theorem dX4_swingOn_22 : decode cX4_swingOn 22 = .ok (.if_icmp .ge 23, 3) := by decide +kernel
theorem dX4_swingOn_25 : decode cX4_swingOn 25 = .ok (.iload_n 2, 1) := by decide +kernel
theorem dX4_swingOn_26 : decode cX4_swingOn 26 = .ok (.aload_n 0, 1) := by decide +kernel
theorem dX4_swingOn_27 : decode cX4_swingOn 27 = .ok (.getfield 7, 3) := by decide +kernel
theorem dX4_swingOn_30 : decode cX4_swingOn 30 = .ok (.iload_n 1, 1) := by decide +kernel
theorem dX4_swingOn_31 : decode cX4_swingOn 31 = .ok (.bipush 12, 2) := by decide +kernel
theorem dX4_swingOn_33 : decode cX4_swingOn 33 = .ok (.iadd, 1) := by decide +kernel
theorem dX4_swingOn_34 : decode cX4_swingOn 34 = .ok (.iload_n 3, 1) := by decide +kernel
theorem dX4_swingOn_35 : decode cX4_swingOn 35 = .ok (.iadd, 1) := by decide +kernel
theorem dX4_swingOn_36 : decode cX4_swingOn 36 = .ok (.iaload, 1) := by decide +kernel
theorem dX4_swingOn_37 : decode cX4_swingOn 37 = .ok (.iadd, 1) := by decide +kernel
theorem dX4_swingOn_38 : decode cX4_swingOn 38 = .ok (.istore_n 2, 1) := by decide +kernel
theorem dX4_swingOn_39 : decode cX4_swingOn 39 = .ok (.iinc 3 1, 3) := by decide +kernel
theorem dX4_swingOn_42 : decode cX4_swingOn 42 = .ok (.goto (-30), 3) := by decide +kernel
theorem dX4_swingOn_45 : decode cX4_swingOn 45 = .ok (.iload_n 2, 1) := by decide +kernel
theorem dX4_swingOn_46 : decode cX4_swingOn 46 = .ok (.ireturn, 1) := by decide +kernel
theorem dX4_rule_0 : decode cX4_rule 0 = .ok (.aload_n 0, 1) := by decide +kernel
theorem dX4_rule_1 : decode cX4_rule 1 = .ok (.getfield 7, 3) := by decide +kernel
theorem dX4_rule_4 : decode cX4_rule 4 = .ok (.bipush 33, 2) := by decide +kernel
theorem dX4_rule_6 : decode cX4_rule 6 = .ok (.iaload, 1) := by decide +kernel
theorem dX4_rule_7 : decode cX4_rule 7 = .ok (.istore_n 2, 1) := by decide +kernel
theorem dX4_rule_8 : decode cX4_rule 8 = .ok (.iload_n 1, 1) := by decide +kernel
theorem dX4_rule_9 : decode cX4_rule 9 = .ok (.tableswitch 136 0 8 #[51, 59, 61, 69, 77, 85, 95, 103, 109], 51) := by decide +kernel
theorem dX4_rule_60 : decode cX4_rule 60 = .ok (.aload_n 0, 1) := by decide +kernel
theorem dX4_rule_61 : decode cX4_rule 61 = .ok (.getfield 7, 3) := by decide +kernel
theorem dX4_rule_64 : decode cX4_rule 64 = .ok (.bipush 16, 2) := by decide +kernel
theorem dX4_rule_66 : decode cX4_rule 66 = .ok (.iaload, 1) := by decide +kernel
theorem dX4_rule_67 : decode cX4_rule 67 = .ok (.ireturn, 1) := by decide +kernel
theorem dX4_rule_68 : decode cX4_rule 68 = .ok (.iload_n 2, 1) := by decide +kernel
theorem dX4_rule_69 : decode cX4_rule 69 = .ok (.ireturn, 1) := by decide +kernel
theorem dX4_rule_70 : decode cX4_rule 70 = .ok (.aload_n 0, 1) := by decide +kernel
theorem dX4_rule_71 : decode cX4_rule 71 = .ok (.getfield 7, 3) := by decide +kernel
theorem dX4_rule_74 : decode cX4_rule 74 = .ok (.bipush 36, 2) := by decide +kernel
theorem dX4_rule_76 : decode cX4_rule 76 = .ok (.iaload, 1) := by decide +kernel
theorem dX4_rule_77 : decode cX4_rule 77 = .ok (.ireturn, 1) := by decide +kernel
theorem dX4_rule_78 : decode cX4_rule 78 = .ok (.aload_n 0, 1) := by decide +kernel
theorem dX4_rule_79 : decode cX4_rule 79 = .ok (.getfield 7, 3) := by decide +kernel
theorem dX4_rule_82 : decode cX4_rule 82 = .ok (.bipush 37, 2) := by decide +kernel
theorem dX4_rule_84 : decode cX4_rule 84 = .ok (.iaload, 1) := by decide +kernel
theorem dX4_rule_85 : decode cX4_rule 85 = .ok (.ireturn, 1) := by decide +kernel
theorem dX4_rule_86 : decode cX4_rule 86 = .ok (.aload_n 0, 1) := by decide +kernel
theorem dX4_rule_87 : decode cX4_rule 87 = .ok (.getfield 7, 3) := by decide +kernel
theorem dX4_rule_90 : decode cX4_rule 90 = .ok (.bipush 38, 2) := by decide +kernel
theorem dX4_rule_92 : decode cX4_rule 92 = .ok (.iaload, 1) := by decide +kernel
theorem dX4_rule_93 : decode cX4_rule 93 = .ok (.ireturn, 1) := by decide +kernel
theorem dX4_rule_94 : decode cX4_rule 94 = .ok (.aload_n 0, 1) := by decide +kernel
theorem dX4_rule_95 : decode cX4_rule 95 = .ok (.getfield 7, 3) := by decide +kernel
theorem dX4_rule_98 : decode cX4_rule 98 = .ok (.bipush 34, 2) := by decide +kernel
theorem dX4_rule_100 : decode cX4_rule 100 = .ok (.iaload, 1) := by decide +kernel
theorem dX4_rule_101 : decode cX4_rule 101 = .ok (.iconst 5, 1) := by decide +kernel
theorem dX4_rule_102 : decode cX4_rule 102 = .ok (.iadd, 1) := by decide +kernel
theorem dX4_rule_103 : decode cX4_rule 103 = .ok (.ireturn, 1) := by decide +kernel
theorem dX4_rule_104 : decode cX4_rule 104 = .ok (.aload_n 0, 1) := by decide +kernel
theorem dX4_rule_105 : decode cX4_rule 105 = .ok (.getfield 7, 3) := by decide +kernel
theorem dX4_rule_108 : decode cX4_rule 108 = .ok (.bipush 35, 2) := by decide +kernel
theorem dX4_rule_110 : decode cX4_rule 110 = .ok (.iaload, 1) := by decide +kernel
theorem dX4_rule_111 : decode cX4_rule 111 = .ok (.ireturn, 1) := by decide +kernel
theorem dX4_rule_112 : decode cX4_rule 112 = .ok (.aload_n 0, 1) := by decide +kernel
theorem dX4_rule_113 : decode cX4_rule 113 = .ok (.iconst 0, 1) := by decide +kernel
theorem dX4_rule_114 : decode cX4_rule 114 = .ok (.invokevirtual 131, 3) := by decide +kernel
theorem dX4_rule_117 : decode cX4_rule 117 = .ok (.ireturn, 1) := by decide +kernel
theorem dX4_rule_118 : decode cX4_rule 118 = .ok (.iload_n 2, 1) := by decide +kernel
theorem dX4_rule_119 : decode cX4_rule 119 = .ok (.ifCond .ne 8, 3) := by decide +kernel
theorem dX4_rule_122 : decode cX4_rule 122 = .ok (.bipush (-4), 2) := by decide +kernel
theorem dX4_rule_124 : decode cX4_rule 124 = .ok (.goto 20, 3) := by decide +kernel
theorem dX4_rule_127 : decode cX4_rule 127 = .ok (.aload_n 0, 1) := by decide +kernel
theorem dX4_rule_128 : decode cX4_rule 128 = .ok (.getfield 7, 3) := by decide +kernel
theorem dX4_rule_131 : decode cX4_rule 131 = .ok (.bipush 17, 2) := by decide +kernel
theorem dX4_rule_133 : decode cX4_rule 133 = .ok (.aload_n 0, 1) := by decide +kernel
theorem dX4_rule_134 : decode cX4_rule 134 = .ok (.getfield 7, 3) := by decide +kernel
theorem dX4_rule_137 : decode cX4_rule 137 = .ok (.bipush 36, 2) := by decide +kernel
theorem dX4_rule_139 : decode cX4_rule 139 = .ok (.iaload, 1) := by decide +kernel
theorem dX4_rule_140 : decode cX4_rule 140 = .ok (.iload_n 2, 1) := by decide +kernel
theorem dX4_rule_141 : decode cX4_rule 141 = .ok (.irem, 1) := by decide +kernel
theorem dX4_rule_142 : decode cX4_rule 142 = .ok (.iadd, 1) := by decide +kernel
theorem dX4_rule_143 : decode cX4_rule 143 = .ok (.iaload, 1) := by decide +kernel
theorem dX4_rule_144 : decode cX4_rule 144 = .ok (.ireturn, 1) := by decide +kernel
theorem dX4_rule_145 : decode cX4_rule 145 = .ok (.iconst (-1), 1) := by decide +kernel
theorem dX4_rule_146 : decode cX4_rule 146 = .ok (.ireturn, 1) := by decide +kernel
theorem dX4_wheel_0 : decode cX4_wheel 0 = .ok (.aload_n 0, 1) := by decide +kernel
theorem dX4_wheel_1 : decode cX4_wheel 1 = .ok (.iload_n 1, 1) := by decide +kernel
theorem dX4_wheel_2 : decode cX4_wheel 2 = .ok (.invokevirtual 144, 3) := by decide +kernel
theorem dX4_wheel_5 : decode cX4_wheel 5 = .ok (.ifCond .eq 15, 3) := by decide +kernel
theorem dX4_wheel_8 : decode cX4_wheel 8 = .ok (.iload_n 2, 1) := by decide +kernel
theorem dX4_wheel_9 : decode cX4_wheel 9 = .ok (.i2l, 1) := by decide +kernel
theorem dX4_wheel_10 : decode cX4_wheel 10 = .ok (.lconst 0, 1) := by decide +kernel
theorem dX4_wheel_11 : decode cX4_wheel 11 = .ok (.ldc2_w 148, 3) := by decide +kernel
theorem dX4_wheel_14 : decode cX4_wheel 14 = .ok (.invokestatic 53, 3) := by decide +kernel
theorem dX4_wheel_17 : decode cX4_wheel 17 = .ok (.ifCond .ne 5, 3) := by decide +kernel
theorem dX4_wheel_20 : decode cX4_wheel 20 = .ok (.iconst (-1), 1) := by decide +kernel
theorem dX4_wheel_21 : decode cX4_wheel 21 = .ok (.ireturn, 1) := by decide +kernel
theorem dX4_wheel_22 : decode cX4_wheel 22 = .ok (.iload_n 2, 1) := by decide +kernel
theorem dX4_wheel_23 : decode cX4_wheel 23 = .ok (.iconst 4, 1) := by decide +kernel
theorem dX4_wheel_24 : decode cX4_wheel 24 = .ok (.if_icmp .ge 16, 3) := by decide +kernel
theorem dX4_wheel_27 : decode cX4_wheel 27 = .ok (.aload_n 0, 1) := by decide +kernel
theorem dX4_wheel_28 : decode cX4_wheel 28 = .ok (.getfield 7, 3) := by decide +kernel
theorem dX4_wheel_31 : decode cX4_wheel 31 = .ok (.iconst 4, 1) := by decide +kernel
theorem dX4_wheel_32 : decode cX4_wheel 32 = .ok (.iload_n 2, 1) := by decide +kernel
theorem dX4_wheel_33 : decode cX4_wheel 33 = .ok (.imul, 1) := by decide +kernel
theorem dX4_wheel_34 : decode cX4_wheel 34 = .ok (.iload_n 1, 1) := by decide +kernel
theorem dX4_wheel_35 : decode cX4_wheel 35 = .ok (.iadd, 1) := by decide +kernel
theorem dX4_wheel_36 : decode cX4_wheel 36 = .ok (.iaload, 1) := by decide +kernel
theorem dX4_wheel_37 : decode cX4_wheel 37 = .ok (.goto 35, 3) := by decide +kernel
theorem dX4_wheel_40 : decode cX4_wheel 40 = .ok (.iload_n 2, 1) := by decide +kernel
theorem dX4_wheel_41 : decode cX4_wheel 41 = .ok (.iconst 4, 1) := by decide +kernel
theorem dX4_wheel_42 : decode cX4_wheel 42 = .ok (.if_icmp .ne 24, 3) := by decide +kernel
theorem dX4_wheel_45 : decode cX4_wheel 45 = .ok (.aload_n 0, 1) := by decide +kernel
theorem dX4_wheel_46 : decode cX4_wheel 46 = .ok (.getfield 7, 3) := by decide +kernel
theorem dX4_wheel_49 : decode cX4_wheel 49 = .ok (.bipush 12, 2) := by decide +kernel
theorem dX4_wheel_51 : decode cX4_wheel 51 = .ok (.iload_n 1, 1) := by decide +kernel
theorem dX4_wheel_52 : decode cX4_wheel 52 = .ok (.iadd, 1) := by decide +kernel
theorem dX4_wheel_53 : decode cX4_wheel 53 = .ok (.iaload, 1) := by decide +kernel
theorem dX4_wheel_54 : decode cX4_wheel 54 = .ok (.aload_n 0, 1) := by decide +kernel
theorem dX4_wheel_55 : decode cX4_wheel 55 = .ok (.getfield 7, 3) := by decide +kernel
theorem dX4_wheel_58 : decode cX4_wheel 58 = .ok (.iconst 4, 1) := by decide +kernel
theorem dX4_wheel_59 : decode cX4_wheel 59 = .ok (.iload_n 1, 1) := by decide +kernel
theorem dX4_wheel_60 : decode cX4_wheel 60 = .ok (.iadd, 1) := by decide +kernel
theorem dX4_wheel_61 : decode cX4_wheel 61 = .ok (.iaload, 1) := by decide +kernel
theorem dX4_wheel_62 : decode cX4_wheel 62 = .ok (.idiv, 1) := by decide +kernel
theorem dX4_wheel_63 : decode cX4_wheel 63 = .ok (.goto 9, 3) := by decide +kernel
theorem dX4_wheel_66 : decode cX4_wheel 66 = .ok (.aload_n 0, 1) := by decide +kernel
theorem dX4_wheel_67 : decode cX4_wheel 67 = .ok (.iconst 0, 1) := by decide +kernel
theorem dX4_wheel_68 : decode cX4_wheel 68 = .ok (.iload_n 1, 1) := by decide +kernel
theorem dX4_wheel_69 : decode cX4_wheel 69 = .ok (.invokevirtual 125, 3) := by decide +kernel
theorem dX4_wheel_72 : decode cX4_wheel 72 = .ok (.ireturn, 1) := by decide +kernel
theorem dX4_act_0 : decode cX4_act 0 = .ok (.aload_n 0, 1) := by decide +kernel
theorem dX4_act_1 : decode cX4_act 1 = .ok (.iload_n 1, 1) := by decide +kernel
theorem dX4_act_2 : decode cX4_act 2 = .ok (.invokevirtual 150, 3) := by decide +kernel
theorem dX4_act_5 : decode cX4_act 5 = .ok (.ifCond .eq 15, 3) := by decide +kernel
theorem dX4_act_8 : decode cX4_act 8 = .ok (.aload_n 0, 1) := by decide +kernel
theorem dX4_act_9 : decode cX4_act 9 = .ok (.getfield 7, 3) := by decide +kernel
theorem dX4_act_12 : decode cX4_act 12 = .ok (.bipush 17, 2) := by decide +kernel
theorem dX4_act_14 : decode cX4_act 14 = .ok (.iload_n 1, 1) := by decide +kernel
theorem dX4_act_15 : decode cX4_act 15 = .ok (.iadd, 1) := by decide +kernel
theorem dX4_act_16 : decode cX4_act 16 = .ok (.iaload, 1) := by decide +kernel
theorem dX4_act_17 : decode cX4_act 17 = .ok (.goto 4, 3) := by decide +kernel
theorem dX4_act_20 : decode cX4_act 20 = .ok (.iconst (-1), 1) := by decide +kernel
theorem dX4_act_21 : decode cX4_act 21 = .ok (.ireturn, 1) := by decide +kernel
theorem dX4_puts_0 : decode cX4_puts 0 = .ok (.iload_n 1, 1) := by decide +kernel
theorem dX4_puts_1 : decode cX4_puts 1 = .ok (.ifCond .ne 5, 3) := by decide +kernel
theorem dX4_puts_4 : decode cX4_puts 4 = .ok (.iconst (-1), 1) := by decide +kernel
theorem dX4_puts_5 : decode cX4_puts 5 = .ok (.ireturn, 1) := by decide +kernel
theorem dX4_puts_6 : decode cX4_puts 6 = .ok (.aload_n 0, 1) := by decide +kernel
theorem dX4_puts_7 : decode cX4_puts 7 = .ok (.getfield 7, 3) := by decide +kernel
theorem dX4_puts_10 : decode cX4_puts 10 = .ok (.iload_n 2, 1) := by decide +kernel
theorem dX4_puts_11 : decode cX4_puts 11 = .ok (.iaload, 1) := by decide +kernel
theorem dX4_puts_12 : decode cX4_puts 12 = .ok (.iload 4, 2) := by decide +kernel
theorem dX4_puts_14 : decode cX4_puts 14 = .ok (.iadd, 1) := by decide +kernel
theorem dX4_puts_15 : decode cX4_puts 15 = .ok (.istore 5, 2) := by decide +kernel
theorem dX4_puts_17 : decode cX4_puts 17 = .ok (.aload_n 0, 1) := by decide +kernel
theorem dX4_puts_18 : decode cX4_puts 18 = .ok (.getfield 7, 3) := by decide +kernel
theorem dX4_puts_21 : decode cX4_puts 21 = .ok (.iload_n 2, 1) := by decide +kernel
theorem dX4_puts_22 : decode cX4_puts 22 = .ok (.iload_n 3, 1) := by decide +kernel
theorem dX4_puts_23 : decode cX4_puts 23 = .ok (.iload 4, 2) := by decide +kernel
theorem dX4_puts_25 : decode cX4_puts 25 = .ok (.isub, 1) := by decide +kernel
theorem dX4_puts_26 : decode cX4_puts 26 = .ok (.iastore, 1) := by decide +kernel
theorem dX4_puts_27 : decode cX4_puts 27 = .ok (.iload 5, 2) := by decide +kernel
theorem dX4_puts_29 : decode cX4_puts 29 = .ok (.ireturn, 1) := by decide +kernel
theorem dX4_alter_0 : decode cX4_alter 0 = .ok (.iload_n 2, 1) := by decide +kernel
theorem dX4_alter_1 : decode cX4_alter 1 = .ok (.ifCond .ne 15, 3) := by decide +kernel
theorem dX4_alter_4 : decode cX4_alter 4 = .ok (.iload_n 3, 1) := by decide +kernel
theorem dX4_alter_5 : decode cX4_alter 5 = .ok (.i2l, 1) := by decide +kernel
theorem dX4_alter_6 : decode cX4_alter 6 = .ok (.lconst 0, 1) := by decide +kernel
theorem dX4_alter_7 : decode cX4_alter 7 = .ok (.ldc2_w 153, 3) := by decide +kernel
theorem dX4_alter_10 : decode cX4_alter 10 = .ok (.invokestatic 53, 3) := by decide +kernel
theorem dX4_alter_13 : decode cX4_alter 13 = .ok (.goto 59, 3) := by decide +kernel
theorem dX4_alter_16 : decode cX4_alter 16 = .ok (.iload_n 2, 1) := by decide +kernel
theorem dX4_alter_17 : decode cX4_alter 17 = .ok (.iconst 1, 1) := by decide +kernel
theorem dX4_alter_18 : decode cX4_alter 18 = .ok (.if_icmp .ne 15, 3) := by decide +kernel
theorem dX4_alter_21 : decode cX4_alter 21 = .ok (.iload_n 3, 1) := by decide +kernel
theorem dX4_alter_22 : decode cX4_alter 22 = .ok (.i2l, 1) := by decide +kernel
theorem dX4_alter_23 : decode cX4_alter 23 = .ok (.lconst 1, 1) := by decide +kernel
theorem dX4_alter_24 : decode cX4_alter 24 = .ok (.ldc2_w 155, 3) := by decide +kernel
theorem dX4_alter_27 : decode cX4_alter 27 = .ok (.invokestatic 53, 3) := by decide +kernel
theorem dX4_alter_30 : decode cX4_alter 30 = .ok (.goto 42, 3) := by decide +kernel
theorem dX4_alter_33 : decode cX4_alter 33 = .ok (.iload_n 2, 1) := by decide +kernel
theorem dX4_alter_34 : decode cX4_alter 34 = .ok (.iconst 2, 1) := by decide +kernel
theorem dX4_alter_35 : decode cX4_alter 35 = .ok (.if_icmp .ne 15, 3) := by decide +kernel
theorem dX4_alter_38 : decode cX4_alter 38 = .ok (.iload_n 3, 1) := by decide +kernel
theorem dX4_alter_39 : decode cX4_alter 39 = .ok (.i2l, 1) := by decide +kernel
theorem dX4_alter_40 : decode cX4_alter 40 = .ok (.lconst 0, 1) := by decide +kernel
theorem dX4_alter_41 : decode cX4_alter 41 = .ok (.ldc2_w 157, 3) := by decide +kernel
theorem dX4_alter_44 : decode cX4_alter 44 = .ok (.invokestatic 53, 3) := by decide +kernel
theorem dX4_alter_47 : decode cX4_alter 47 = .ok (.goto 25, 3) := by decide +kernel
theorem dX4_alter_50 : decode cX4_alter 50 = .ok (.iload_n 2, 1) := by decide +kernel
theorem dX4_alter_51 : decode cX4_alter 51 = .ok (.iconst 3, 1) := by decide +kernel
theorem dX4_alter_52 : decode cX4_alter 52 = .ok (.if_icmp .ne 19, 3) := by decide +kernel
theorem dX4_alter_55 : decode cX4_alter 55 = .ok (.iload_n 3, 1) := by decide +kernel
theorem dX4_alter_56 : decode cX4_alter 56 = .ok (.i2l, 1) := by decide +kernel
theorem dX4_alter_57 : decode cX4_alter 57 = .ok (.lconst 0, 1) := by decide +kernel
theorem dX4_alter_58 : decode cX4_alter 58 = .ok (.ldc2_w 159, 3) := by decide +kernel
theorem dX4_alter_61 : decode cX4_alter 61 = .ok (.invokestatic 53, 3) := by decide +kernel
theorem dX4_alter_64 : decode cX4_alter 64 = .ok (.ifCond .eq 7, 3) := by decide +kernel
theorem dX4_alter_67 : decode cX4_alter 67 = .ok (.iconst 1, 1) := by decide +kernel
theorem dX4_alter_68 : decode cX4_alter 68 = .ok (.goto 4, 3) := by decide +kernel
theorem dX4_alter_71 : decode cX4_alter 71 = .ok (.iconst 0, 1) := by decide +kernel
theorem dX4_alter_72 : decode cX4_alter 72 = .ok (.istore 4, 2) := by decide +kernel
theorem dX4_alter_74 : decode cX4_alter 74 = .ok (.aload_n 0, 1) := by decide +kernel
theorem dX4_alter_75 : decode cX4_alter 75 = .ok (.aload_n 0, 1) := by decide +kernel
theorem dX4_alter_76 : decode cX4_alter 76 = .ok (.iload_n 1, 1) := by decide +kernel
theorem dX4_alter_77 : decode cX4_alter 77 = .ok (.invokevirtual 144, 3) := by decide +kernel
theorem dX4_alter_80 : decode cX4_alter 80 = .ok (.ifCond .eq 12, 3) := by decide +kernel
theorem dX4_alter_83 : decode cX4_alter 83 = .ok (.iload 4, 2) := by decide +kernel
theorem dX4_alter_85 : decode cX4_alter 85 = .ok (.ifCond .eq 7, 3) := by decide +kernel
theorem dX4_alter_88 : decode cX4_alter 88 = .ok (.iconst 1, 1) := by decide +kernel
theorem dX4_alter_89 : decode cX4_alter 89 = .ok (.goto 4, 3) := by decide +kernel
theorem dX4_alter_92 : decode cX4_alter 92 = .ok (.iconst 0, 1) := by decide +kernel
theorem dX4_alter_93 : decode cX4_alter 93 = .ok (.iconst 4, 1) := by decide +kernel
theorem dX4_alter_94 : decode cX4_alter 94 = .ok (.iload_n 2, 1) := by decide +kernel
theorem dX4_alter_95 : decode cX4_alter 95 = .ok (.imul, 1) := by decide +kernel
theorem dX4_alter_96 : decode cX4_alter 96 = .ok (.iload_n 1, 1) := by decide +kernel
theorem dX4_alter_97 : decode cX4_alter 97 = .ok (.iadd, 1) := by decide +kernel
theorem dX4_alter_98 : decode cX4_alter 98 = .ok (.iload_n 3, 1) := by decide +kernel
theorem dX4_alter_99 : decode cX4_alter 99 = .ok (.iconst 0, 1) := by decide +kernel
theorem dX4_alter_100 : decode cX4_alter 100 = .ok (.invokevirtual 161, 3) := by decide +kernel
theorem dX4_alter_103 : decode cX4_alter 103 = .ok (.ireturn, 1) := by decide +kernel
theorem dX4_shaft_0 : decode cX4_shaft 0 = .ok (.aload_n 0, 1) := by decide +kernel
theorem dX4_shaft_1 : decode cX4_shaft 1 = .ok (.iload_n 1, 1) := by decide +kernel
theorem dX4_shaft_2 : decode cX4_shaft 2 = .ok (.i2l, 1) := by decide +kernel
theorem dX4_shaft_3 : decode cX4_shaft 3 = .ok (.lconst 1, 1) := by decide +kernel
theorem dX4_shaft_4 : decode cX4_shaft 4 = .ok (.ldc2_w 155, 3) := by decide +kernel
theorem dX4_shaft_7 : decode cX4_shaft 7 = .ok (.invokestatic 53, 3) := by decide +kernel
theorem dX4_shaft_10 : decode cX4_shaft 10 = .ok (.bipush 34, 2) := by decide +kernel
theorem dX4_shaft_12 : decode cX4_shaft 12 = .ok (.iload_n 1, 1) := by decide +kernel
theorem dX4_shaft_13 : decode cX4_shaft 13 = .ok (.iconst 5, 1) := by decide +kernel
theorem dX4_shaft_14 : decode cX4_shaft 14 = .ok (.invokevirtual 161, 3) := by decide +kernel
theorem dX4_shaft_17 : decode cX4_shaft 17 = .ok (.ireturn, 1) := by decide +kernel
theorem dX4_put_0 : decode cX4_put 0 = .ok (.iload_n 1, 1) := by decide +kernel
theorem dX4_put_1 : decode cX4_put 1 = .ok (.i2l, 1) := by decide +kernel
theorem dX4_put_2 : decode cX4_put 2 = .ok (.lconst 0, 1) := by decide +kernel
theorem dX4_put_3 : decode cX4_put 3 = .ok (.ldc2_w 153, 3) := by decide +kernel
theorem dX4_put_6 : decode cX4_put 6 = .ok (.invokestatic 53, 3) := by decide +kernel
theorem dX4_put_9 : decode cX4_put 9 = .ok (.ifCond .eq 27, 3) := by decide +kernel
theorem dX4_put_12 : decode cX4_put 12 = .ok (.iload_n 2, 1) := by decide +kernel
theorem dX4_put_13 : decode cX4_put 13 = .ok (.i2l, 1) := by decide +kernel
theorem dX4_put_14 : decode cX4_put 14 = .ok (.lconst 1, 1) := by decide +kernel
theorem dX4_put_15 : decode cX4_put 15 = .ok (.ldc2_w 155, 3) := by decide +kernel
theorem dX4_put_18 : decode cX4_put 18 = .ok (.invokestatic 53, 3) := by decide +kernel
theorem dX4_put_21 : decode cX4_put 21 = .ok (.ifCond .eq 15, 3) := by decide +kernel
theorem dX4_put_24 : decode cX4_put 24 = .ok (.iload_n 3, 1) := by decide +kernel
theorem dX4_put_25 : decode cX4_put 25 = .ok (.i2l, 1) := by decide +kernel
theorem dX4_put_26 : decode cX4_put 26 = .ok (.lconst 0, 1) := by decide +kernel
theorem dX4_put_27 : decode cX4_put 27 = .ok (.ldc2_w 157, 3) := by decide +kernel
theorem dX4_put_30 : decode cX4_put 30 = .ok (.invokestatic 53, 3) := by decide +kernel
theorem dX4_put_33 : decode cX4_put 33 = .ok (.ifCond .ne 5, 3) := by decide +kernel
theorem dX4_put_36 : decode cX4_put 36 = .ok (.iconst (-1), 1) := by decide +kernel
theorem dX4_put_37 : decode cX4_put 37 = .ok (.ireturn, 1) := by decide +kernel
theorem dX4_put_38 : decode cX4_put 38 = .ok (.aload_n 0, 1) := by decide +kernel
theorem dX4_put_39 : decode cX4_put 39 = .ok (.getfield 7, 3) := by decide +kernel
theorem dX4_put_42 : decode cX4_put 42 = .ok (.bipush 16, 2) := by decide +kernel
theorem dX4_put_44 : decode cX4_put 44 = .ok (.iaload, 1) := by decide +kernel
theorem dX4_put_45 : decode cX4_put 45 = .ok (.istore 4, 2) := by decide +kernel
theorem dX4_put_47 : decode cX4_put 47 = .ok (.iload 4, 2) := by decide +kernel
theorem dX4_put_49 : decode cX4_put 49 = .ok (.iconst 4, 1) := by decide +kernel
theorem dX4_put_50 : decode cX4_put 50 = .ok (.if_icmp .ne 6, 3) := by decide +kernel
theorem dX4_put_53 : decode cX4_put 53 = .ok (.bipush (-3), 2) := by decide +kernel
theorem dX4_put_55 : decode cX4_put 55 = .ok (.ireturn, 1) := by decide +kernel
theorem dX4_put_56 : decode cX4_put 56 = .ok (.aload_n 0, 1) := by decide +kernel
theorem dX4_put_57 : decode cX4_put 57 = .ok (.getfield 7, 3) := by decide +kernel
theorem dX4_put_60 : decode cX4_put 60 = .ok (.iload 4, 2) := by decide +kernel
theorem dX4_put_62 : decode cX4_put 62 = .ok (.iload_n 1, 1) := by decide +kernel
theorem dX4_put_63 : decode cX4_put 63 = .ok (.iastore, 1) := by decide +kernel
theorem dX4_put_64 : decode cX4_put 64 = .ok (.aload_n 0, 1) := by decide +kernel
theorem dX4_put_65 : decode cX4_put 65 = .ok (.getfield 7, 3) := by decide +kernel
theorem dX4_put_68 : decode cX4_put 68 = .ok (.iconst 4, 1) := by decide +kernel
theorem dX4_put_69 : decode cX4_put 69 = .ok (.iload 4, 2) := by decide +kernel
theorem dX4_put_71 : decode cX4_put 71 = .ok (.iadd, 1) := by decide +kernel
theorem dX4_put_72 : decode cX4_put 72 = .ok (.iload_n 2, 1) := by decide +kernel
theorem dX4_put_73 : decode cX4_put 73 = .ok (.iastore, 1) := by decide +kernel
theorem dX4_put_74 : decode cX4_put 74 = .ok (.aload_n 0, 1) := by decide +kernel
theorem dX4_put_75 : decode cX4_put 75 = .ok (.getfield 7, 3) := by decide +kernel
theorem dX4_put_78 : decode cX4_put 78 = .ok (.bipush 8, 2) := by decide +kernel
theorem dX4_put_80 : decode cX4_put 80 = .ok (.iload 4, 2) := by decide +kernel
theorem dX4_put_82 : decode cX4_put 82 = .ok (.iadd, 1) := by decide +kernel
theorem dX4_put_83 : decode cX4_put 83 = .ok (.iload_n 3, 1) := by decide +kernel
theorem dX4_put_84 : decode cX4_put 84 = .ok (.iastore, 1) := by decide +kernel
theorem dX4_put_85 : decode cX4_put 85 = .ok (.aload_n 0, 1) := by decide +kernel
theorem dX4_put_86 : decode cX4_put 86 = .ok (.getfield 7, 3) := by decide +kernel
theorem dX4_put_89 : decode cX4_put 89 = .ok (.bipush 12, 2) := by decide +kernel
theorem dX4_put_91 : decode cX4_put 91 = .ok (.iload 4, 2) := by decide +kernel
theorem dX4_put_93 : decode cX4_put 93 = .ok (.iadd, 1) := by decide +kernel
theorem dX4_put_94 : decode cX4_put 94 = .ok (.iconst 0, 1) := by decide +kernel
theorem dX4_put_95 : decode cX4_put 95 = .ok (.iastore, 1) := by decide +kernel
theorem dX4_put_96 : decode cX4_put 96 = .ok (.aload_n 0, 1) := by decide +kernel
theorem dX4_put_97 : decode cX4_put 97 = .ok (.getfield 7, 3) := by decide +kernel
theorem dX4_put_100 : decode cX4_put 100 = .ok (.bipush 16, 2) := by decide +kernel
theorem dX4_put_102 : decode cX4_put 102 = .ok (.dup2, 1) := by decide +kernel
theorem dX4_put_103 : decode cX4_put 103 = .ok (.iaload, 1) := by decide +kernel
theorem dX4_put_104 : decode cX4_put 104 = .ok (.iconst 1, 1) := by decide +kernel
theorem dX4_put_105 : decode cX4_put 105 = .ok (.iadd, 1) := by decide +kernel
theorem dX4_put_106 : decode cX4_put 106 = .ok (.iastore, 1) := by decide +kernel
theorem dX4_put_107 : decode cX4_put 107 = .ok (.aload_n 0, 1) := by decide +kernel
theorem dX4_put_108 : decode cX4_put 108 = .ok (.getfield 7, 3) := by decide +kernel
theorem dX4_put_111 : decode cX4_put 111 = .ok (.bipush 16, 2) := by decide +kernel
theorem dX4_put_113 : decode cX4_put 113 = .ok (.iaload, 1) := by decide +kernel
theorem dX4_put_114 : decode cX4_put 114 = .ok (.ireturn, 1) := by decide +kernel
theorem dX4_cut_0 : decode cX4_cut 0 = .ok (.aload_n 0, 1) := by decide +kernel
theorem dX4_cut_1 : decode cX4_cut 1 = .ok (.iload_n 1, 1) := by decide +kernel
theorem dX4_cut_2 : decode cX4_cut 2 = .ok (.i2l, 1) := by decide +kernel
theorem dX4_cut_3 : decode cX4_cut 3 = .ok (.lconst 0, 1) := by decide +kernel
theorem dX4_cut_4 : decode cX4_cut 4 = .ok (.aload_n 0, 1) := by decide +kernel
theorem dX4_cut_5 : decode cX4_cut 5 = .ok (.getfield 7, 3) := by decide +kernel
theorem dX4_cut_8 : decode cX4_cut 8 = .ok (.bipush 16, 2) := by decide +kernel
theorem dX4_cut_10 : decode cX4_cut 10 = .ok (.iaload, 1) := by decide +kernel
theorem dX4_cut_11 : decode cX4_cut 11 = .ok (.i2l, 1) := by decide +kernel
theorem dX4_cut_12 : decode cX4_cut 12 = .ok (.invokestatic 53, 3) := by decide +kernel
theorem dX4_cut_15 : decode cX4_cut 15 = .ok (.bipush 16, 2) := by decide +kernel
theorem dX4_cut_17 : decode cX4_cut 17 = .ok (.iload_n 1, 1) := by decide +kernel
theorem dX4_cut_18 : decode cX4_cut 18 = .ok (.iconst 0, 1) := by decide +kernel
theorem dX4_cut_19 : decode cX4_cut 19 = .ok (.invokevirtual 161, 3) := by decide +kernel
theorem dX4_cut_22 : decode cX4_cut 22 = .ok (.ireturn, 1) := by decide +kernel
theorem dX4_set_0 : decode cX4_set 0 = .ok (.aload_n 0, 1) := by decide +kernel
theorem dX4_set_1 : decode cX4_set 1 = .ok (.aload_n 0, 1) := by decide +kernel
theorem dX4_set_2 : decode cX4_set 2 = .ok (.iload_n 1, 1) := by decide +kernel
theorem dX4_set_3 : decode cX4_set 3 = .ok (.invokevirtual 150, 3) := by decide +kernel
theorem dX4_set_6 : decode cX4_set 6 = .ok (.ifCond .eq 19, 3) := by decide +kernel
theorem dX4_set_9 : decode cX4_set 9 = .ok (.iload_n 2, 1) := by decide +kernel
theorem dX4_set_10 : decode cX4_set 10 = .ok (.i2l, 1) := by decide +kernel
theorem dX4_set_11 : decode cX4_set 11 = .ok (.lconst 0, 1) := by decide +kernel
theorem dX4_set_12 : decode cX4_set 12 = .ok (.ldc2_w 165, 3) := by decide +kernel
theorem dX4_set_15 : decode cX4_set 15 = .ok (.invokestatic 53, 3) := by decide +kernel
theorem dX4_set_18 : decode cX4_set 18 = .ok (.ifCond .eq 7, 3) := by decide +kernel
theorem dX4_set_21 : decode cX4_set 21 = .ok (.iconst 1, 1) := by decide +kernel
theorem dX4_set_22 : decode cX4_set 22 = .ok (.goto 4, 3) := by decide +kernel
theorem dX4_set_25 : decode cX4_set 25 = .ok (.iconst 0, 1) := by decide +kernel
theorem dX4_set_26 : decode cX4_set 26 = .ok (.bipush 17, 2) := by decide +kernel
theorem dX4_set_28 : decode cX4_set 28 = .ok (.iload_n 1, 1) := by decide +kernel
theorem dX4_set_29 : decode cX4_set 29 = .ok (.iadd, 1) := by decide +kernel
theorem dX4_set_30 : decode cX4_set 30 = .ok (.iload_n 2, 1) := by decide +kernel
theorem dX4_set_31 : decode cX4_set 31 = .ok (.iconst 0, 1) := by decide +kernel
theorem dX4_set_32 : decode cX4_set 32 = .ok (.invokevirtual 161, 3) := by decide +kernel
theorem dX4_set_35 : decode cX4_set 35 = .ok (.ireturn, 1) := by decide +kernel
theorem dX4_adds_0 : decode cX4_adds 0 = .ok (.iload_n 1, 1) := by decide +kernel
theorem dX4_adds_1 : decode cX4_adds 1 = .ok (.i2l, 1) := by decide +kernel
theorem dX4_adds_2 : decode cX4_adds 2 = .ok (.lconst 0, 1) := by decide +kernel
theorem dX4_adds_3 : decode cX4_adds 3 = .ok (.ldc2_w 165, 3) := by decide +kernel
theorem dX4_adds_6 : decode cX4_adds 6 = .ok (.invokestatic 53, 3) := by decide +kernel
theorem dX4_adds_9 : decode cX4_adds 9 = .ok (.ifCond .ne 5, 3) := by decide +kernel
theorem dX4_adds_12 : decode cX4_adds 12 = .ok (.iconst (-1), 1) := by decide +kernel
theorem dX4_adds_13 : decode cX4_adds 13 = .ok (.ireturn, 1) := by decide +kernel
theorem dX4_adds_14 : decode cX4_adds 14 = .ok (.aload_n 0, 1) := by decide +kernel
theorem dX4_adds_15 : decode cX4_adds 15 = .ok (.getfield 7, 3) := by decide +kernel
theorem dX4_adds_18 : decode cX4_adds 18 = .ok (.bipush 33, 2) := by decide +kernel
theorem dX4_adds_20 : decode cX4_adds 20 = .ok (.iaload, 1) := by decide +kernel
theorem dX4_adds_21 : decode cX4_adds 21 = .ok (.bipush 16, 2) := by decide +kernel
theorem dX4_adds_23 : decode cX4_adds 23 = .ok (.if_icmp .ne 6, 3) := by decide +kernel
theorem dX4_adds_26 : decode cX4_adds 26 = .ok (.bipush (-3), 2) := by decide +kernel
theorem dX4_adds_28 : decode cX4_adds 28 = .ok (.ireturn, 1) := by decide +kernel
theorem dX4_adds_29 : decode cX4_adds 29 = .ok (.aload_n 0, 1) := by decide +kernel
theorem dX4_adds_30 : decode cX4_adds 30 = .ok (.getfield 7, 3) := by decide +kernel
theorem dX4_adds_33 : decode cX4_adds 33 = .ok (.bipush 17, 2) := by decide +kernel
theorem dX4_adds_35 : decode cX4_adds 35 = .ok (.aload_n 0, 1) := by decide +kernel
theorem dX4_adds_36 : decode cX4_adds 36 = .ok (.getfield 7, 3) := by decide +kernel
theorem dX4_adds_39 : decode cX4_adds 39 = .ok (.bipush 33, 2) := by decide +kernel
theorem dX4_adds_41 : decode cX4_adds 41 = .ok (.iaload, 1) := by decide +kernel
theorem dX4_adds_42 : decode cX4_adds 42 = .ok (.iadd, 1) := by decide +kernel
theorem dX4_adds_43 : decode cX4_adds 43 = .ok (.iload_n 1, 1) := by decide +kernel
theorem dX4_adds_44 : decode cX4_adds 44 = .ok (.iastore, 1) := by decide +kernel
theorem dX4_adds_45 : decode cX4_adds 45 = .ok (.aload_n 0, 1) := by decide +kernel
theorem dX4_adds_46 : decode cX4_adds 46 = .ok (.getfield 7, 3) := by decide +kernel
theorem dX4_adds_49 : decode cX4_adds 49 = .ok (.bipush 33, 2) := by decide +kernel
theorem dX4_adds_51 : decode cX4_adds 51 = .ok (.dup2, 1) := by decide +kernel
theorem dX4_adds_52 : decode cX4_adds 52 = .ok (.iaload, 1) := by decide +kernel
theorem dX4_adds_53 : decode cX4_adds 53 = .ok (.iconst 1, 1) := by decide +kernel
theorem dX4_adds_54 : decode cX4_adds 54 = .ok (.iadd, 1) := by decide +kernel
theorem dX4_adds_55 : decode cX4_adds 55 = .ok (.iastore, 1) := by decide +kernel
theorem dX4_adds_56 : decode cX4_adds 56 = .ok (.aload_n 0, 1) := by decide +kernel
theorem dX4_adds_57 : decode cX4_adds 57 = .ok (.getfield 7, 3) := by decide +kernel
theorem dX4_adds_60 : decode cX4_adds 60 = .ok (.bipush 33, 2) := by decide +kernel
theorem dX4_adds_62 : decode cX4_adds 62 = .ok (.iaload, 1) := by decide +kernel
theorem dX4_adds_63 : decode cX4_adds 63 = .ok (.ireturn, 1) := by decide +kernel
theorem dX4_add_0 : decode cX4_add 0 = .ok (.aload_n 0, 1) := by decide +kernel
theorem dX4_add_1 : decode cX4_add 1 = .ok (.iload_n 1, 1) := by decide +kernel
theorem dX4_add_2 : decode cX4_add 2 = .ok (.invokevirtual 167, 3) := by decide +kernel
theorem dX4_add_5 : decode cX4_add 5 = .ok (.ireturn, 1) := by decide +kernel
theorem dX4_drop_0 : decode cX4_drop 0 = .ok (.aload_n 0, 1) := by decide +kernel
theorem dX4_drop_1 : decode cX4_drop 1 = .ok (.iload_n 1, 1) := by decide +kernel
theorem dX4_drop_2 : decode cX4_drop 2 = .ok (.i2l, 1) := by decide +kernel
theorem dX4_drop_3 : decode cX4_drop 3 = .ok (.lconst 0, 1) := by decide +kernel
theorem dX4_drop_4 : decode cX4_drop 4 = .ok (.aload_n 0, 1) := by decide +kernel
theorem dX4_drop_5 : decode cX4_drop 5 = .ok (.getfield 7, 3) := by decide +kernel
theorem dX4_drop_8 : decode cX4_drop 8 = .ok (.bipush 33, 2) := by decide +kernel
theorem dX4_drop_10 : decode cX4_drop 10 = .ok (.iaload, 1) := by decide +kernel
theorem dX4_drop_11 : decode cX4_drop 11 = .ok (.i2l, 1) := by decide +kernel
theorem dX4_drop_12 : decode cX4_drop 12 = .ok (.invokestatic 53, 3) := by decide +kernel
theorem dX4_drop_15 : decode cX4_drop 15 = .ok (.bipush 33, 2) := by decide +kernel
theorem dX4_drop_17 : decode cX4_drop 17 = .ok (.iload_n 1, 1) := by decide +kernel
theorem dX4_drop_18 : decode cX4_drop 18 = .ok (.iconst 0, 1) := by decide +kernel
theorem dX4_drop_19 : decode cX4_drop 19 = .ok (.invokevirtual 161, 3) := by decide +kernel
theorem dX4_drop_22 : decode cX4_drop 22 = .ok (.ireturn, 1) := by decide +kernel
theorem dX4_turn_0 : decode cX4_turn 0 = .ok (.iload_n 1, 1) := by decide +kernel
theorem dX4_turn_1 : decode cX4_turn 1 = .ok (.i2l, 1) := by decide +kernel
theorem dX4_turn_2 : decode cX4_turn 2 = .ok (.lconst 0, 1) := by decide +kernel
theorem dX4_turn_3 : decode cX4_turn 3 = .ok (.ldc2_w 165, 3) := by decide +kernel
theorem dX4_turn_6 : decode cX4_turn 6 = .ok (.invokestatic 53, 3) := by decide +kernel
theorem dX4_turn_9 : decode cX4_turn 9 = .ok (.ifCond .ne 5, 3) := by decide +kernel
theorem dX4_turn_12 : decode cX4_turn 12 = .ok (.iconst (-1), 1) := by decide +kernel
theorem dX4_turn_13 : decode cX4_turn 13 = .ok (.ireturn, 1) := by decide +kernel
theorem dX4_turn_14 : decode cX4_turn 14 = .ok (.iload_n 1, 1) := by decide +kernel
theorem dX4_turn_15 : decode cX4_turn 15 = .ok (.sipush 200, 3) := by decide +kernel
theorem dX4_turn_18 : decode cX4_turn 18 = .ok (.if_icmp .lt 18, 3) := by decide +kernel
theorem dX4_turn_21 : decode cX4_turn 21 = .ok (.aload_n 0, 1) := by decide +kernel
theorem dX4_turn_22 : decode cX4_turn 22 = .ok (.iload_n 1, 1) := by decide +kernel
theorem dX4_turn_23 : decode cX4_turn 23 = .ok (.sipush 200, 3) := by decide +kernel
theorem dX4_turn_26 : decode cX4_turn 26 = .ok (.isub, 1) := by decide +kernel
theorem dX4_turn_27 : decode cX4_turn 27 = .ok (.invokevirtual 144, 3) := by decide +kernel
theorem dX4_turn_30 : decode cX4_turn 30 = .ok (.ifCond .ne 6, 3) := by decide +kernel
theorem dX4_turn_33 : decode cX4_turn 33 = .ok (.bipush (-2), 2) := by decide +kernel
theorem dX4_turn_35 : decode cX4_turn 35 = .ok (.ireturn, 1) := by decide +kernel
theorem dX4_turn_36 : decode cX4_turn 36 = .ok (.aload_n 0, 1) := by decide +kernel
theorem dX4_turn_37 : decode cX4_turn 37 = .ok (.iconst 0, 1) := by decide +kernel
theorem dX4_turn_38 : decode cX4_turn 38 = .ok (.iload_n 1, 1) := by decide +kernel
theorem dX4_turn_39 : decode cX4_turn 39 = .ok (.iconst 0, 1) := by decide +kernel
theorem dX4_turn_40 : decode cX4_turn 40 = .ok (.invokevirtual 137, 3) := by decide +kernel
theorem dX4_turn_43 : decode cX4_turn 43 = .ok (.aload_n 0, 1) := by decide +kernel
theorem dX4_turn_44 : decode cX4_turn 44 = .ok (.getfield 7, 3) := by decide +kernel
theorem dX4_turn_47 : decode cX4_turn 47 = .ok (.bipush 35, 2) := by decide +kernel
theorem dX4_turn_49 : decode cX4_turn 49 = .ok (.iaload, 1) := by decide +kernel
theorem dX4_turn_50 : decode cX4_turn 50 = .ok (.ireturn, 1) := by decide +kernel
theorem dX4_ticks_0 : decode cX4_ticks 0 = .ok (.iload_n 1, 1) := by decide +kernel
theorem dX4_ticks_1 : decode cX4_ticks 1 = .ok (.i2l, 1) := by decide +kernel
theorem dX4_ticks_2 : decode cX4_ticks 2 = .ok (.lconst 0, 1) := by decide +kernel
theorem dX4_ticks_3 : decode cX4_ticks 3 = .ok (.ldc2_w 170, 3) := by decide +kernel
theorem dX4_ticks_6 : decode cX4_ticks 6 = .ok (.invokestatic 53, 3) := by decide +kernel
theorem dX4_ticks_9 : decode cX4_ticks 9 = .ok (.ifCond .ne 5, 3) := by decide +kernel
theorem dX4_ticks_12 : decode cX4_ticks 12 = .ok (.iconst (-1), 1) := by decide +kernel
theorem dX4_ticks_13 : decode cX4_ticks 13 = .ok (.ireturn, 1) := by decide +kernel
theorem dX4_ticks_14 : decode cX4_ticks 14 = .ok (.aload_n 0, 1) := by decide +kernel
theorem dX4_ticks_15 : decode cX4_ticks 15 = .ok (.getfield 7, 3) := by decide +kernel
theorem dX4_ticks_18 : decode cX4_ticks 18 = .ok (.bipush 36, 2) := by decide +kernel
theorem dX4_ticks_20 : decode cX4_ticks 20 = .ok (.iaload, 1) := by decide +kernel
theorem dX4_ticks_21 : decode cX4_ticks 21 = .ok (.iload_n 1, 1) := by decide +kernel
theorem dX4_ticks_22 : decode cX4_ticks 22 = .ok (.iadd, 1) := by decide +kernel
theorem dX4_ticks_23 : decode cX4_ticks 23 = .ok (.sipush 9999, 3) := by decide +kernel
theorem dX4_ticks_26 : decode cX4_ticks 26 = .ok (.if_icmp .le 6, 3) := by decide +kernel
theorem dX4_ticks_29 : decode cX4_ticks 29 = .ok (.bipush (-3), 2) := by decide +kernel
theorem dX4_ticks_31 : decode cX4_ticks 31 = .ok (.ireturn, 1) := by decide +kernel
theorem dX4_ticks_32 : decode cX4_ticks 32 = .ok (.aload_n 0, 1) := by decide +kernel
theorem dX4_ticks_33 : decode cX4_ticks 33 = .ok (.getfield 7, 3) := by decide +kernel
theorem dX4_ticks_36 : decode cX4_ticks 36 = .ok (.bipush 37, 2) := by decide +kernel
theorem dX4_ticks_38 : decode cX4_ticks 38 = .ok (.iaload, 1) := by decide +kernel
theorem dX4_ticks_39 : decode cX4_ticks 39 = .ok (.istore_n 2, 1) := by decide +kernel
theorem dX4_ticks_40 : decode cX4_ticks 40 = .ok (.iconst 0, 1) := by decide +kernel
theorem dX4_ticks_41 : decode cX4_ticks 41 = .ok (.istore_n 3, 1) := by decide +kernel
theorem dX4_ticks_42 : decode cX4_ticks 42 = .ok (.iload_n 3, 1) := by decide +kernel
theorem dX4_ticks_43 : decode cX4_ticks 43 = .ok (.iload_n 1, 1) := by decide +kernel
theorem dX4_ticks_44 : decode cX4_ticks 44 = .ok (.if_icmp .ge 15, 3) := by decide +kernel
theorem dX4_ticks_47 : decode cX4_ticks 47 = .ok (.aload_n 0, 1) := by decide +kernel
theorem dX4_ticks_48 : decode cX4_ticks 48 = .ok (.iconst 0, 1) := by decide +kernel
theorem dX4_ticks_49 : decode cX4_ticks 49 = .ok (.iconst 0, 1) := by decide +kernel
theorem dX4_ticks_50 : decode cX4_ticks 50 = .ok (.invokevirtual 172, 3) := by decide +kernel
theorem dX4_ticks_53 : decode cX4_ticks 53 = .ok (.iinc 3 1, 3) := by decide +kernel
theorem dX4_ticks_56 : decode cX4_ticks 56 = .ok (.goto (-14), 3) := by decide +kernel
theorem dX4_ticks_59 : decode cX4_ticks 59 = .ok (.aload_n 0, 1) := by decide +kernel
theorem dX4_ticks_60 : decode cX4_ticks 60 = .ok (.getfield 7, 3) := by decide +kernel
theorem dX4_ticks_63 : decode cX4_ticks 63 = .ok (.bipush 37, 2) := by decide +kernel
theorem dX4_ticks_65 : decode cX4_ticks 65 = .ok (.iaload, 1) := by decide +kernel
theorem dX4_ticks_66 : decode cX4_ticks 66 = .ok (.iload_n 2, 1) := by decide +kernel
theorem dX4_ticks_67 : decode cX4_ticks 67 = .ok (.isub, 1) := by decide +kernel
theorem dX4_ticks_68 : decode cX4_ticks 68 = .ok (.ireturn, 1) := by decide +kernel
theorem dX4_copies_0 : decode cX4_copies 0 = .ok (.iconst 0, 1) := by decide +kernel
theorem dX4_copies_1 : decode cX4_copies 1 = .ok (.istore_n 3, 1) := by decide +kernel
theorem dX4_copies_2 : decode cX4_copies 2 = .ok (.iload_n 3, 1) := by decide +kernel
theorem dX4_copies_3 : decode cX4_copies 3 = .ok (.bipush 39, 2) := by decide +kernel
theorem dX4_copies_5 : decode cX4_copies 5 = .ok (.if_icmp .ge 25, 3) := by decide +kernel
theorem dX4_copies_8 : decode cX4_copies 8 = .ok (.aload_n 0, 1) := by decide +kernel
theorem dX4_copies_9 : decode cX4_copies 9 = .ok (.getfield 7, 3) := by decide +kernel
theorem dX4_copies_12 : decode cX4_copies 12 = .ok (.iload_n 2, 1) := by decide +kernel
theorem dX4_copies_13 : decode cX4_copies 13 = .ok (.iload_n 3, 1) := by decide +kernel
theorem dX4_copies_14 : decode cX4_copies 14 = .ok (.iadd, 1) := by decide +kernel
theorem dX4_copies_15 : decode cX4_copies 15 = .ok (.aload_n 0, 1) := by decide +kernel
theorem dX4_copies_16 : decode cX4_copies 16 = .ok (.getfield 7, 3) := by decide +kernel
theorem dX4_copies_19 : decode cX4_copies 19 = .ok (.iload_n 1, 1) := by decide +kernel
theorem dX4_copies_20 : decode cX4_copies 20 = .ok (.iload_n 3, 1) := by decide +kernel
theorem dX4_copies_21 : decode cX4_copies 21 = .ok (.iadd, 1) := by decide +kernel
theorem dX4_copies_22 : decode cX4_copies 22 = .ok (.iaload, 1) := by decide +kernel
theorem dX4_copies_23 : decode cX4_copies 23 = .ok (.iastore, 1) := by decide +kernel
theorem dX4_copies_24 : decode cX4_copies 24 = .ok (.iinc 3 1, 3) := by decide +kernel
theorem dX4_copies_27 : decode cX4_copies 27 = .ok (.goto (-25), 3) := by decide +kernel
theorem dX4_copies_30 : decode cX4_copies 30 = .ok (.return_, 1) := by decide +kernel
theorem dX4_ticksGo_0 : decode cX4_ticksGo 0 = .ok (.aload_n 0, 1) := by decide +kernel
theorem dX4_ticksGo_1 : decode cX4_ticksGo 1 = .ok (.iload_n 1, 1) := by decide +kernel
theorem dX4_ticksGo_2 : decode cX4_ticksGo 2 = .ok (.sipush 156, 3) := by decide +kernel
theorem dX4_ticksGo_5 : decode cX4_ticksGo 5 = .ok (.invokevirtual 176, 3) := by decide +kernel
theorem dX4_ticksGo_8 : decode cX4_ticksGo 8 = .ok (.aload_n 0, 1) := by decide +kernel
theorem dX4_ticksGo_9 : decode cX4_ticksGo 9 = .ok (.iconst 0, 1) := by decide +kernel
theorem dX4_ticksGo_10 : decode cX4_ticksGo 10 = .ok (.putfield 128, 3) := by decide +kernel
theorem dX4_ticksGo_13 : decode cX4_ticksGo 13 = .ok (.aload_n 0, 1) := by decide +kernel
theorem dX4_ticksGo_14 : decode cX4_ticksGo 14 = .ok (.aload_n 0, 1) := by decide +kernel
theorem dX4_ticksGo_15 : decode cX4_ticksGo 15 = .ok (.sipush 156, 3) := by decide +kernel
theorem dX4_ticksGo_18 : decode cX4_ticksGo 18 = .ok (.invokevirtual 131, 3) := by decide +kernel
theorem dX4_ticksGo_21 : decode cX4_ticksGo 21 = .ok (.putfield 134, 3) := by decide +kernel
theorem dX4_ticksGo_24 : decode cX4_ticksGo 24 = .ok (.iconst 0, 1) := by decide +kernel
theorem dX4_ticksGo_25 : decode cX4_ticksGo 25 = .ok (.istore_n 3, 1) := by decide +kernel
theorem dX4_ticksGo_26 : decode cX4_ticksGo 26 = .ok (.iload_n 3, 1) := by decide +kernel
theorem dX4_ticksGo_27 : decode cX4_ticksGo 27 = .ok (.iload_n 2, 1) := by decide +kernel
theorem dX4_ticksGo_28 : decode cX4_ticksGo 28 = .ok (.if_icmp .ge 17, 3) := by decide +kernel
theorem dX4_ticksGo_31 : decode cX4_ticksGo 31 = .ok (.aload_n 0, 1) := by decide +kernel
theorem dX4_ticksGo_32 : decode cX4_ticksGo 32 = .ok (.sipush 156, 3) := by decide +kernel
theorem dX4_ticksGo_35 : decode cX4_ticksGo 35 = .ok (.iconst 0, 1) := by decide +kernel
theorem dX4_ticksGo_36 : decode cX4_ticksGo 36 = .ok (.invokevirtual 172, 3) := by decide +kernel
theorem dX4_ticksGo_39 : decode cX4_ticksGo 39 = .ok (.iinc 3 1, 3) := by decide +kernel
theorem dX4_ticksGo_42 : decode cX4_ticksGo 42 = .ok (.goto (-16), 3) := by decide +kernel
theorem dX4_ticksGo_45 : decode cX4_ticksGo 45 = .ok (.aload_n 0, 1) := by decide +kernel
theorem dX4_ticksGo_46 : decode cX4_ticksGo 46 = .ok (.getfield 7, 3) := by decide +kernel
theorem dX4_ticksGo_49 : decode cX4_ticksGo 49 = .ok (.sipush 193, 3) := by decide +kernel
theorem dX4_ticksGo_52 : decode cX4_ticksGo 52 = .ok (.iaload, 1) := by decide +kernel
theorem dX4_ticksGo_53 : decode cX4_ticksGo 53 = .ok (.aload_n 0, 1) := by decide +kernel
theorem dX4_ticksGo_54 : decode cX4_ticksGo 54 = .ok (.getfield 7, 3) := by decide +kernel
theorem dX4_ticksGo_57 : decode cX4_ticksGo 57 = .ok (.bipush 37, 2) := by decide +kernel
theorem dX4_ticksGo_59 : decode cX4_ticksGo 59 = .ok (.iaload, 1) := by decide +kernel
theorem dX4_ticksGo_60 : decode cX4_ticksGo 60 = .ok (.isub, 1) := by decide +kernel
theorem dX4_ticksGo_61 : decode cX4_ticksGo 61 = .ok (.ireturn, 1) := by decide +kernel
theorem dX4_lackThen_0 : decode cX4_lackThen 0 = .ok (.aload_n 0, 1) := by decide +kernel
theorem dX4_lackThen_1 : decode cX4_lackThen 1 = .ok (.getfield 7, 3) := by decide +kernel
theorem dX4_lackThen_4 : decode cX4_lackThen 4 = .ok (.sipush 194, 3) := by decide +kernel
theorem dX4_lackThen_7 : decode cX4_lackThen 7 = .ok (.iaload, 1) := by decide +kernel
theorem dX4_lackThen_8 : decode cX4_lackThen 8 = .ok (.aload_n 0, 1) := by decide +kernel
theorem dX4_lackThen_9 : decode cX4_lackThen 9 = .ok (.getfield 7, 3) := by decide +kernel
theorem dX4_lackThen_12 : decode cX4_lackThen 12 = .ok (.bipush 38, 2) := by decide +kernel
theorem dX4_lackThen_14 : decode cX4_lackThen 14 = .ok (.iaload, 1) := by decide +kernel
theorem dX4_lackThen_15 : decode cX4_lackThen 15 = .ok (.isub, 1) := by decide +kernel
theorem dX4_lackThen_16 : decode cX4_lackThen 16 = .ok (.ireturn, 1) := by decide +kernel
theorem dX4_runs_0 : decode cX4_runs 0 = .ok (.iload_n 1, 1) := by decide +kernel
theorem dX4_runs_1 : decode cX4_runs 1 = .ok (.invokestatic 180, 3) := by decide +kernel
theorem dX4_runs_4 : decode cX4_runs 4 = .ok (.ifCond .eq 15, 3) := by decide +kernel
theorem dX4_runs_7 : decode cX4_runs 7 = .ok (.iload_n 2, 1) := by decide +kernel
theorem dX4_runs_8 : decode cX4_runs 8 = .ok (.i2l, 1) := by decide +kernel
theorem dX4_runs_9 : decode cX4_runs 9 = .ok (.lconst 0, 1) := by decide +kernel
theorem dX4_runs_10 : decode cX4_runs 10 = .ok (.ldc2_w 183, 3) := by decide +kernel
theorem dX4_runs_13 : decode cX4_runs 13 = .ok (.invokestatic 53, 3) := by decide +kernel
theorem dX4_runs_16 : decode cX4_runs 16 = .ok (.ifCond .ne 5, 3) := by decide +kernel
theorem dX4_runs_19 : decode cX4_runs 19 = .ok (.iconst (-1), 1) := by decide +kernel
theorem dX4_runs_20 : decode cX4_runs 20 = .ok (.ireturn, 1) := by decide +kernel
theorem dX4_runs_21 : decode cX4_runs 21 = .ok (.aload_n 0, 1) := by decide +kernel
theorem dX4_runs_22 : decode cX4_runs 22 = .ok (.iconst 0, 1) := by decide +kernel
theorem dX4_runs_23 : decode cX4_runs 23 = .ok (.iload_n 1, 1) := by decide +kernel
theorem dX4_runs_24 : decode cX4_runs 24 = .ok (.invokevirtual 185, 3) := by decide +kernel
theorem dX4_runs_27 : decode cX4_runs 27 = .ok (.istore_n 3, 1) := by decide +kernel
theorem dX4_runs_28 : decode cX4_runs 28 = .ok (.iload_n 2, 1) := by decide +kernel
theorem dX4_runs_29 : decode cX4_runs 29 = .ok (.tableswitch 51 0 3 #[31, 33, 38, 43], 31) := by decide +kernel
theorem dX4_runs_60 : decode cX4_runs 60 = .ok (.iload_n 3, 1) := by decide +kernel
theorem dX4_runs_61 : decode cX4_runs 61 = .ok (.ireturn, 1) := by decide +kernel
theorem dX4_runs_62 : decode cX4_runs 62 = .ok (.aload_n 0, 1) := by decide +kernel
theorem dX4_runs_63 : decode cX4_runs 63 = .ok (.invokevirtual 188, 3) := by decide +kernel
theorem dX4_runs_66 : decode cX4_runs 66 = .ok (.ireturn, 1) := by decide +kernel
theorem dX4_runs_67 : decode cX4_runs 67 = .ok (.aload_n 0, 1) := by decide +kernel
theorem dX4_runs_68 : decode cX4_runs 68 = .ok (.getfield 128, 3) := by decide +kernel
theorem dX4_runs_71 : decode cX4_runs 71 = .ok (.ireturn, 1) := by decide +kernel
theorem dX4_runs_72 : decode cX4_runs 72 = .ok (.aload_n 0, 1) := by decide +kernel
theorem dX4_runs_73 : decode cX4_runs 73 = .ok (.sipush 156, 3) := by decide +kernel
theorem dX4_runs_76 : decode cX4_runs 76 = .ok (.invokevirtual 191, 3) := by decide +kernel
theorem dX4_runs_79 : decode cX4_runs 79 = .ok (.ireturn, 1) := by decide +kernel
theorem dX4_runs_80 : decode cX4_runs 80 = .ok (.aload_n 0, 1) := by decide +kernel
theorem dX4_runs_81 : decode cX4_runs 81 = .ok (.getfield 134, 3) := by decide +kernel
theorem dX4_runs_84 : decode cX4_runs 84 = .ok (.ireturn, 1) := by decide +kernel
theorem dX4_ahead_0 : decode cX4_ahead 0 = .ok (.aload_n 0, 1) := by decide +kernel
theorem dX4_ahead_1 : decode cX4_ahead 1 = .ok (.iload_n 1, 1) := by decide +kernel
theorem dX4_ahead_2 : decode cX4_ahead 2 = .ok (.invokevirtual 144, 3) := by decide +kernel
theorem dX4_ahead_5 : decode cX4_ahead 5 = .ok (.ifCond .eq 10, 3) := by decide +kernel
theorem dX4_ahead_8 : decode cX4_ahead 8 = .ok (.iload_n 2, 1) := by decide +kernel
theorem dX4_ahead_9 : decode cX4_ahead 9 = .ok (.invokestatic 180, 3) := by decide +kernel
theorem dX4_ahead_12 : decode cX4_ahead 12 = .ok (.ifCond .ne 5, 3) := by decide +kernel
theorem dX4_ahead_15 : decode cX4_ahead 15 = .ok (.iconst (-1), 1) := by decide +kernel
theorem dX4_ahead_16 : decode cX4_ahead 16 = .ok (.ireturn, 1) := by decide +kernel
theorem dX4_ahead_17 : decode cX4_ahead 17 = .ok (.aload_n 0, 1) := by decide +kernel
theorem dX4_ahead_18 : decode cX4_ahead 18 = .ok (.iconst 0, 1) := by decide +kernel
theorem dX4_ahead_19 : decode cX4_ahead 19 = .ok (.iload_n 2, 1) := by decide +kernel
theorem dX4_ahead_20 : decode cX4_ahead 20 = .ok (.invokevirtual 185, 3) := by decide +kernel
theorem dX4_ahead_23 : decode cX4_ahead 23 = .ok (.pop, 1) := by decide +kernel
theorem dX4_ahead_24 : decode cX4_ahead 24 = .ok (.aload_n 0, 1) := by decide +kernel
theorem dX4_ahead_25 : decode cX4_ahead 25 = .ok (.getfield 7, 3) := by decide +kernel
theorem dX4_ahead_28 : decode cX4_ahead 28 = .ok (.sipush 168, 3) := by decide +kernel
theorem dX4_ahead_31 : decode cX4_ahead 31 = .ok (.iload_n 1, 1) := by decide +kernel
theorem dX4_ahead_32 : decode cX4_ahead 32 = .ok (.iadd, 1) := by decide +kernel
theorem dX4_ahead_33 : decode cX4_ahead 33 = .ok (.iaload, 1) := by decide +kernel
theorem dX4_ahead_34 : decode cX4_ahead 34 = .ok (.ireturn, 1) := by decide +kernel
theorem dX4_when_0 : decode cX4_when 0 = .ok (.aload_n 0, 1) := by decide +kernel
theorem dX4_when_1 : decode cX4_when 1 = .ok (.iload_n 1, 1) := by decide +kernel
theorem dX4_when_2 : decode cX4_when 2 = .ok (.invokevirtual 144, 3) := by decide +kernel
theorem dX4_when_5 : decode cX4_when 5 = .ok (.ifCond .ne 5, 3) := by decide +kernel
theorem dX4_when_8 : decode cX4_when 8 = .ok (.iconst (-1), 1) := by decide +kernel
theorem dX4_when_9 : decode cX4_when 9 = .ok (.ireturn, 1) := by decide +kernel
theorem dX4_when_10 : decode cX4_when 10 = .ok (.aload_n 0, 1) := by decide +kernel
theorem dX4_when_11 : decode cX4_when 11 = .ok (.iconst 0, 1) := by decide +kernel
theorem dX4_when_12 : decode cX4_when 12 = .ok (.sipush 156, 3) := by decide +kernel
theorem dX4_when_15 : decode cX4_when 15 = .ok (.invokevirtual 176, 3) := by decide +kernel
theorem dX4_when_18 : decode cX4_when 18 = .ok (.iconst 0, 1) := by decide +kernel
theorem dX4_when_19 : decode cX4_when 19 = .ok (.istore_n 2, 1) := by decide +kernel
theorem dX4_when_20 : decode cX4_when 20 = .ok (.iload_n 2, 1) := by decide +kernel
theorem dX4_when_21 : decode cX4_when 21 = .ok (.sipush 200, 3) := by decide +kernel
theorem dX4_when_24 : decode cX4_when 24 = .ok (.if_icmp .gt 32, 3) := by decide +kernel
theorem dX4_when_27 : decode cX4_when 27 = .ok (.aload_n 0, 1) := by decide +kernel
theorem dX4_when_28 : decode cX4_when 28 = .ok (.getfield 7, 3) := by decide +kernel
theorem dX4_when_31 : decode cX4_when 31 = .ok (.sipush 168, 3) := by decide +kernel
theorem dX4_when_34 : decode cX4_when 34 = .ok (.iload_n 1, 1) := by decide +kernel
theorem dX4_when_35 : decode cX4_when 35 = .ok (.iadd, 1) := by decide +kernel
theorem dX4_when_36 : decode cX4_when 36 = .ok (.iaload, 1) := by decide +kernel
theorem dX4_when_37 : decode cX4_when 37 = .ok (.ifCond .ne 5, 3) := by decide +kernel
theorem dX4_when_40 : decode cX4_when 40 = .ok (.iload_n 2, 1) := by decide +kernel
theorem dX4_when_41 : decode cX4_when 41 = .ok (.ireturn, 1) := by decide +kernel
theorem dX4_when_42 : decode cX4_when 42 = .ok (.aload_n 0, 1) := by decide +kernel
theorem dX4_when_43 : decode cX4_when 43 = .ok (.sipush 156, 3) := by decide +kernel
theorem dX4_when_46 : decode cX4_when 46 = .ok (.iconst 0, 1) := by decide +kernel
theorem dX4_when_47 : decode cX4_when 47 = .ok (.invokevirtual 172, 3) := by decide +kernel
theorem dX4_when_50 : decode cX4_when 50 = .ok (.iinc 2 1, 3) := by decide +kernel
theorem dX4_when_53 : decode cX4_when 53 = .ok (.goto (-33), 3) := by decide +kernel
theorem dX4_when_56 : decode cX4_when 56 = .ok (.bipush (-4), 2) := by decide +kernel
theorem dX4_when_58 : decode cX4_when 58 = .ok (.ireturn, 1) := by decide +kernel
theorem dX4_again_0 : decode cX4_again 0 = .ok (.aload_n 0, 1) := by decide +kernel
theorem dX4_again_1 : decode cX4_again 1 = .ok (.getfield 7, 3) := by decide +kernel
theorem dX4_again_4 : decode cX4_again 4 = .ok (.bipush 33, 2) := by decide +kernel
theorem dX4_again_6 : decode cX4_again 6 = .ok (.iaload, 1) := by decide +kernel
theorem dX4_again_7 : decode cX4_again 7 = .ok (.istore_n 1, 1) := by decide +kernel
theorem dX4_again_8 : decode cX4_again 8 = .ok (.aload_n 0, 1) := by decide +kernel
theorem dX4_again_9 : decode cX4_again 9 = .ok (.iconst 0, 1) := by decide +kernel
theorem dX4_again_10 : decode cX4_again 10 = .ok (.sipush 156, 3) := by decide +kernel
theorem dX4_again_13 : decode cX4_again 13 = .ok (.invokevirtual 176, 3) := by decide +kernel
theorem dX4_again_16 : decode cX4_again 16 = .ok (.iconst 1, 1) := by decide +kernel
theorem dX4_again_17 : decode cX4_again 17 = .ok (.istore_n 2, 1) := by decide +kernel
theorem dX4_again_18 : decode cX4_again 18 = .ok (.iload_n 2, 1) := by decide +kernel
theorem dX4_again_19 : decode cX4_again 19 = .ok (.sipush 200, 3) := by decide +kernel
theorem dX4_again_22 : decode cX4_again 22 = .ok (.if_icmp .gt 112, 3) := by decide +kernel
theorem dX4_again_25 : decode cX4_again 25 = .ok (.aload_n 0, 1) := by decide +kernel
theorem dX4_again_26 : decode cX4_again 26 = .ok (.sipush 156, 3) := by decide +kernel
theorem dX4_again_29 : decode cX4_again 29 = .ok (.iconst 0, 1) := by decide +kernel
theorem dX4_again_30 : decode cX4_again 30 = .ok (.invokevirtual 172, 3) := by decide +kernel
theorem dX4_again_33 : decode cX4_again 33 = .ok (.iload_n 1, 1) := by decide +kernel
theorem dX4_again_34 : decode cX4_again 34 = .ok (.ifCond .eq 9, 3) := by decide +kernel
theorem dX4_again_37 : decode cX4_again 37 = .ok (.iload_n 2, 1) := by decide +kernel
theorem dX4_again_38 : decode cX4_again 38 = .ok (.iload_n 1, 1) := by decide +kernel
theorem dX4_again_39 : decode cX4_again 39 = .ok (.irem, 1) := by decide +kernel
theorem dX4_again_40 : decode cX4_again 40 = .ok (.ifCond .ne 25, 3) := by decide +kernel
theorem dX4_again_43 : decode cX4_again 43 = .ok (.aload_n 0, 1) := by decide +kernel
theorem dX4_again_44 : decode cX4_again 44 = .ok (.getfield 7, 3) := by decide +kernel
theorem dX4_again_47 : decode cX4_again 47 = .ok (.sipush 191, 3) := by decide +kernel
theorem dX4_again_50 : decode cX4_again 50 = .ok (.iaload, 1) := by decide +kernel
theorem dX4_again_51 : decode cX4_again 51 = .ok (.aload_n 0, 1) := by decide +kernel
theorem dX4_again_52 : decode cX4_again 52 = .ok (.getfield 7, 3) := by decide +kernel
theorem dX4_again_55 : decode cX4_again 55 = .ok (.bipush 35, 2) := by decide +kernel
theorem dX4_again_57 : decode cX4_again 57 = .ok (.iaload, 1) := by decide +kernel
theorem dX4_again_58 : decode cX4_again 58 = .ok (.if_icmp .ne 7, 3) := by decide +kernel
theorem dX4_again_61 : decode cX4_again 61 = .ok (.iconst 1, 1) := by decide +kernel
theorem dX4_again_62 : decode cX4_again 62 = .ok (.goto 4, 3) := by decide +kernel
theorem dX4_again_65 : decode cX4_again 65 = .ok (.iconst 0, 1) := by decide +kernel
theorem dX4_again_66 : decode cX4_again 66 = .ok (.istore_n 3, 1) := by decide +kernel
theorem dX4_again_67 : decode cX4_again 67 = .ok (.iconst 0, 1) := by decide +kernel
theorem dX4_again_68 : decode cX4_again 68 = .ok (.istore 4, 2) := by decide +kernel
theorem dX4_again_70 : decode cX4_again 70 = .ok (.iload 4, 2) := by decide +kernel
theorem dX4_again_72 : decode cX4_again 72 = .ok (.aload_n 0, 1) := by decide +kernel
theorem dX4_again_73 : decode cX4_again 73 = .ok (.getfield 7, 3) := by decide +kernel
theorem dX4_again_76 : decode cX4_again 76 = .ok (.bipush 16, 2) := by decide +kernel
theorem dX4_again_78 : decode cX4_again 78 = .ok (.iaload, 1) := by decide +kernel
theorem dX4_again_79 : decode cX4_again 79 = .ok (.if_icmp .ge 43, 3) := by decide +kernel
theorem dX4_again_82 : decode cX4_again 82 = .ok (.iload_n 3, 1) := by decide +kernel
theorem dX4_again_83 : decode cX4_again 83 = .ok (.ifCond .eq 31, 3) := by decide +kernel
theorem dX4_again_86 : decode cX4_again 86 = .ok (.aload_n 0, 1) := by decide +kernel
theorem dX4_again_87 : decode cX4_again 87 = .ok (.getfield 7, 3) := by decide +kernel
theorem dX4_again_90 : decode cX4_again 90 = .ok (.sipush 168, 3) := by decide +kernel
theorem dX4_again_93 : decode cX4_again 93 = .ok (.iload 4, 2) := by decide +kernel
theorem dX4_again_95 : decode cX4_again 95 = .ok (.iadd, 1) := by decide +kernel
theorem dX4_again_96 : decode cX4_again 96 = .ok (.iaload, 1) := by decide +kernel
theorem dX4_again_97 : decode cX4_again 97 = .ok (.aload_n 0, 1) := by decide +kernel
theorem dX4_again_98 : decode cX4_again 98 = .ok (.getfield 7, 3) := by decide +kernel
theorem dX4_again_101 : decode cX4_again 101 = .ok (.bipush 12, 2) := by decide +kernel
theorem dX4_again_103 : decode cX4_again 103 = .ok (.iload 4, 2) := by decide +kernel
theorem dX4_again_105 : decode cX4_again 105 = .ok (.iadd, 1) := by decide +kernel
theorem dX4_again_106 : decode cX4_again 106 = .ok (.iaload, 1) := by decide +kernel
theorem dX4_again_107 : decode cX4_again 107 = .ok (.if_icmp .ne 7, 3) := by decide +kernel
theorem dX4_again_110 : decode cX4_again 110 = .ok (.iconst 1, 1) := by decide +kernel
theorem dX4_again_111 : decode cX4_again 111 = .ok (.goto 4, 3) := by decide +kernel
theorem dX4_again_114 : decode cX4_again 114 = .ok (.iconst 0, 1) := by decide +kernel
theorem dX4_again_115 : decode cX4_again 115 = .ok (.istore_n 3, 1) := by decide +kernel
theorem dX4_again_116 : decode cX4_again 116 = .ok (.iinc 4 1, 3) := by decide +kernel
theorem dX4_again_119 : decode cX4_again 119 = .ok (.goto (-49), 3) := by decide +kernel
theorem dX4_again_122 : decode cX4_again 122 = .ok (.iload_n 3, 1) := by decide +kernel
theorem dX4_again_123 : decode cX4_again 123 = .ok (.ifCond .eq 5, 3) := by decide +kernel
theorem dX4_again_126 : decode cX4_again 126 = .ok (.iload_n 2, 1) := by decide +kernel
theorem dX4_again_127 : decode cX4_again 127 = .ok (.ireturn, 1) := by decide +kernel
theorem dX4_again_128 : decode cX4_again 128 = .ok (.iinc 2 1, 3) := by decide +kernel
theorem dX4_again_131 : decode cX4_again 131 = .ok (.goto (-113), 3) := by decide +kernel
end
section
theorem dX4_again_134 : decode cX4_again 134 = .ok (.bipush (-4), 2) := by decide +kernel
theorem dX4_again_136 : decode cX4_again 136 = .ok (.ireturn, 1) := by decide +kernel
theorem dX4_mostAt_0 : decode cX4_mostAt 0 = .ok (.iconst (-1), 1) := by decide +kernel
theorem dX4_mostAt_1 : decode cX4_mostAt 1 = .ok (.istore 6, 2) := by decide +kernel
theorem dX4_mostAt_3 : decode cX4_mostAt 3 = .ok (.iload_n 2, 1) := by decide +kernel
theorem dX4_mostAt_4 : decode cX4_mostAt 4 = .ok (.istore 7, 2) := by decide +kernel
theorem dX4_mostAt_6 : decode cX4_mostAt 6 = .ok (.aload_n 0, 1) := by decide +kernel
theorem dX4_mostAt_7 : decode cX4_mostAt 7 = .ok (.iconst 0, 1) := by decide +kernel
theorem dX4_mostAt_8 : decode cX4_mostAt 8 = .ok (.sipush 195, 3) := by decide +kernel
theorem dX4_mostAt_11 : decode cX4_mostAt 11 = .ok (.invokevirtual 176, 3) := by decide +kernel
theorem dX4_mostAt_14 : decode cX4_mostAt 14 = .ok (.iload_n 2, 1) := by decide +kernel
theorem dX4_mostAt_15 : decode cX4_mostAt 15 = .ok (.istore 8, 2) := by decide +kernel
theorem dX4_mostAt_17 : decode cX4_mostAt 17 = .ok (.iload 8, 2) := by decide +kernel
theorem dX4_mostAt_19 : decode cX4_mostAt 19 = .ok (.iload_n 3, 1) := by decide +kernel
theorem dX4_mostAt_20 : decode cX4_mostAt 20 = .ok (.if_icmp .gt 64, 3) := by decide +kernel
theorem dX4_mostAt_23 : decode cX4_mostAt 23 = .ok (.aload_n 0, 1) := by decide +kernel
theorem dX4_mostAt_24 : decode cX4_mostAt 24 = .ok (.getfield 7, 3) := by decide +kernel
theorem dX4_mostAt_27 : decode cX4_mostAt 27 = .ok (.sipush 195, 3) := by decide +kernel
theorem dX4_mostAt_30 : decode cX4_mostAt 30 = .ok (.iload_n 1, 1) := by decide +kernel
theorem dX4_mostAt_31 : decode cX4_mostAt 31 = .ok (.iadd, 1) := by decide +kernel
theorem dX4_mostAt_32 : decode cX4_mostAt 32 = .ok (.iload 8, 2) := by decide +kernel
theorem dX4_mostAt_34 : decode cX4_mostAt 34 = .ok (.iastore, 1) := by decide +kernel
theorem dX4_mostAt_35 : decode cX4_mostAt 35 = .ok (.aload_n 0, 1) := by decide +kernel
theorem dX4_mostAt_36 : decode cX4_mostAt 36 = .ok (.sipush 195, 3) := by decide +kernel
theorem dX4_mostAt_39 : decode cX4_mostAt 39 = .ok (.iload 4, 2) := by decide +kernel
theorem dX4_mostAt_41 : decode cX4_mostAt 41 = .ok (.invokevirtual 185, 3) := by decide +kernel
theorem dX4_mostAt_44 : decode cX4_mostAt 44 = .ok (.istore 9, 2) := by decide +kernel
theorem dX4_mostAt_46 : decode cX4_mostAt 46 = .ok (.iload 9, 2) := by decide +kernel
theorem dX4_mostAt_48 : decode cX4_mostAt 48 = .ok (.iload 6, 2) := by decide +kernel
theorem dX4_mostAt_50 : decode cX4_mostAt 50 = .ok (.if_icmp .le 8, 3) := by decide +kernel
theorem dX4_mostAt_53 : decode cX4_mostAt 53 = .ok (.iload 8, 2) := by decide +kernel
theorem dX4_mostAt_55 : decode cX4_mostAt 55 = .ok (.goto 5, 3) := by decide +kernel
theorem dX4_mostAt_58 : decode cX4_mostAt 58 = .ok (.iload 7, 2) := by decide +kernel
theorem dX4_mostAt_60 : decode cX4_mostAt 60 = .ok (.istore 7, 2) := by decide +kernel
theorem dX4_mostAt_62 : decode cX4_mostAt 62 = .ok (.iload 9, 2) := by decide +kernel
theorem dX4_mostAt_64 : decode cX4_mostAt 64 = .ok (.iload 6, 2) := by decide +kernel
theorem dX4_mostAt_66 : decode cX4_mostAt 66 = .ok (.if_icmp .le 8, 3) := by decide +kernel
theorem dX4_mostAt_69 : decode cX4_mostAt 69 = .ok (.iload 9, 2) := by decide +kernel
theorem dX4_mostAt_71 : decode cX4_mostAt 71 = .ok (.goto 5, 3) := by decide +kernel
theorem dX4_mostAt_74 : decode cX4_mostAt 74 = .ok (.iload 6, 2) := by decide +kernel
theorem dX4_mostAt_76 : decode cX4_mostAt 76 = .ok (.istore 6, 2) := by decide +kernel
theorem dX4_mostAt_78 : decode cX4_mostAt 78 = .ok (.iinc 8 1, 3) := by decide +kernel
theorem dX4_mostAt_81 : decode cX4_mostAt 81 = .ok (.goto (-64), 3) := by decide +kernel
theorem dX4_mostAt_84 : decode cX4_mostAt 84 = .ok (.iload 5, 2) := by decide +kernel
theorem dX4_mostAt_86 : decode cX4_mostAt 86 = .ok (.ifCond .ne 8, 3) := by decide +kernel
theorem dX4_mostAt_89 : decode cX4_mostAt 89 = .ok (.iload 7, 2) := by decide +kernel
theorem dX4_mostAt_91 : decode cX4_mostAt 91 = .ok (.goto 5, 3) := by decide +kernel
theorem dX4_mostAt_94 : decode cX4_mostAt 94 = .ok (.iload 6, 2) := by decide +kernel
theorem dX4_mostAt_96 : decode cX4_mostAt 96 = .ok (.ireturn, 1) := by decide +kernel
theorem dX4_mass_0 : decode cX4_mass 0 = .ok (.aload_n 0, 1) := by decide +kernel
theorem dX4_mass_1 : decode cX4_mass 1 = .ok (.iload_n 1, 1) := by decide +kernel
theorem dX4_mass_2 : decode cX4_mass 2 = .ok (.invokevirtual 144, 3) := by decide +kernel
theorem dX4_mass_5 : decode cX4_mass 5 = .ok (.ifCond .eq 35, 3) := by decide +kernel
theorem dX4_mass_8 : decode cX4_mass 8 = .ok (.iload_n 2, 1) := by decide +kernel
theorem dX4_mass_9 : decode cX4_mass 9 = .ok (.invokestatic 180, 3) := by decide +kernel
theorem dX4_mass_12 : decode cX4_mass 12 = .ok (.ifCond .eq 28, 3) := by decide +kernel
theorem dX4_mass_15 : decode cX4_mass 15 = .ok (.iload_n 3, 1) := by decide +kernel
theorem dX4_mass_16 : decode cX4_mass 16 = .ok (.i2l, 1) := by decide +kernel
theorem dX4_mass_17 : decode cX4_mass 17 = .ok (.lconst 0, 1) := by decide +kernel
theorem dX4_mass_18 : decode cX4_mass 18 = .ok (.lconst 1, 1) := by decide +kernel
theorem dX4_mass_19 : decode cX4_mass 19 = .ok (.invokestatic 53, 3) := by decide +kernel
theorem dX4_mass_22 : decode cX4_mass 22 = .ok (.ifCond .eq 18, 3) := by decide +kernel
theorem dX4_mass_25 : decode cX4_mass 25 = .ok (.aload_n 0, 1) := by decide +kernel
theorem dX4_mass_26 : decode cX4_mass 26 = .ok (.iconst 4, 1) := by decide +kernel
theorem dX4_mass_27 : decode cX4_mass 27 = .ok (.iload_n 1, 1) := by decide +kernel
theorem dX4_mass_28 : decode cX4_mass 28 = .ok (.iadd, 1) := by decide +kernel
theorem dX4_mass_29 : decode cX4_mass 29 = .ok (.iconst 1, 1) := by decide +kernel
theorem dX4_mass_30 : decode cX4_mass 30 = .ok (.bipush 20, 2) := by decide +kernel
theorem dX4_mass_32 : decode cX4_mass 32 = .ok (.iload_n 2, 1) := by decide +kernel
theorem dX4_mass_33 : decode cX4_mass 33 = .ok (.iload_n 3, 1) := by decide +kernel
theorem dX4_mass_34 : decode cX4_mass 34 = .ok (.invokevirtual 194, 3) := by decide +kernel
theorem dX4_mass_37 : decode cX4_mass 37 = .ok (.goto 4, 3) := by decide +kernel
theorem dX4_mass_40 : decode cX4_mass 40 = .ok (.iconst (-1), 1) := by decide +kernel
theorem dX4_mass_41 : decode cX4_mass 41 = .ok (.ireturn, 1) := by decide +kernel
theorem dX4_kind_0 : decode cX4_kind 0 = .ok (.aload_n 0, 1) := by decide +kernel
theorem dX4_kind_1 : decode cX4_kind 1 = .ok (.iload_n 1, 1) := by decide +kernel
theorem dX4_kind_2 : decode cX4_kind 2 = .ok (.invokevirtual 144, 3) := by decide +kernel
theorem dX4_kind_5 : decode cX4_kind 5 = .ok (.ifCond .eq 32, 3) := by decide +kernel
theorem dX4_kind_8 : decode cX4_kind 8 = .ok (.iload_n 2, 1) := by decide +kernel
theorem dX4_kind_9 : decode cX4_kind 9 = .ok (.invokestatic 180, 3) := by decide +kernel
theorem dX4_kind_12 : decode cX4_kind 12 = .ok (.ifCond .eq 25, 3) := by decide +kernel
theorem dX4_kind_15 : decode cX4_kind 15 = .ok (.iload_n 3, 1) := by decide +kernel
theorem dX4_kind_16 : decode cX4_kind 16 = .ok (.i2l, 1) := by decide +kernel
theorem dX4_kind_17 : decode cX4_kind 17 = .ok (.lconst 0, 1) := by decide +kernel
theorem dX4_kind_18 : decode cX4_kind 18 = .ok (.lconst 1, 1) := by decide +kernel
theorem dX4_kind_19 : decode cX4_kind 19 = .ok (.invokestatic 53, 3) := by decide +kernel
theorem dX4_kind_22 : decode cX4_kind 22 = .ok (.ifCond .eq 15, 3) := by decide +kernel
theorem dX4_kind_25 : decode cX4_kind 25 = .ok (.aload_n 0, 1) := by decide +kernel
theorem dX4_kind_26 : decode cX4_kind 26 = .ok (.iload_n 1, 1) := by decide +kernel
theorem dX4_kind_27 : decode cX4_kind 27 = .ok (.iconst 0, 1) := by decide +kernel
theorem dX4_kind_28 : decode cX4_kind 28 = .ok (.iconst 3, 1) := by decide +kernel
theorem dX4_kind_29 : decode cX4_kind 29 = .ok (.iload_n 2, 1) := by decide +kernel
theorem dX4_kind_30 : decode cX4_kind 30 = .ok (.iload_n 3, 1) := by decide +kernel
theorem dX4_kind_31 : decode cX4_kind 31 = .ok (.invokevirtual 194, 3) := by decide +kernel
theorem dX4_kind_34 : decode cX4_kind 34 = .ok (.goto 4, 3) := by decide +kernel
theorem dX4_kind_37 : decode cX4_kind 37 = .ok (.iconst (-1), 1) := by decide +kernel
theorem dX4_kind_38 : decode cX4_kind 38 = .ok (.ireturn, 1) := by decide +kernel
theorem dX4_bears_0 : decode cX4_bears 0 = .ok (.aload_n 0, 1) := by decide +kernel
theorem dX4_bears_1 : decode cX4_bears 1 = .ok (.iload_n 1, 1) := by decide +kernel
theorem dX4_bears_2 : decode cX4_bears 2 = .ok (.invokevirtual 144, 3) := by decide +kernel
theorem dX4_bears_5 : decode cX4_bears 5 = .ok (.ifCond .eq 10, 3) := by decide +kernel
theorem dX4_bears_8 : decode cX4_bears 8 = .ok (.iload_n 2, 1) := by decide +kernel
theorem dX4_bears_9 : decode cX4_bears 9 = .ok (.invokestatic 180, 3) := by decide +kernel
theorem dX4_bears_12 : decode cX4_bears 12 = .ok (.ifCond .ne 5, 3) := by decide +kernel
theorem dX4_bears_15 : decode cX4_bears 15 = .ok (.iconst (-1), 1) := by decide +kernel
theorem dX4_bears_16 : decode cX4_bears 16 = .ok (.ireturn, 1) := by decide +kernel
theorem dX4_bears_17 : decode cX4_bears 17 = .ok (.aload_n 0, 1) := by decide +kernel
theorem dX4_bears_18 : decode cX4_bears 18 = .ok (.iconst 0, 1) := by decide +kernel
theorem dX4_bears_19 : decode cX4_bears 19 = .ok (.sipush 195, 3) := by decide +kernel
theorem dX4_bears_22 : decode cX4_bears 22 = .ok (.invokevirtual 176, 3) := by decide +kernel
theorem dX4_bears_25 : decode cX4_bears 25 = .ok (.bipush 9, 2) := by decide +kernel
theorem dX4_bears_27 : decode cX4_bears 27 = .ok (.istore_n 3, 1) := by decide +kernel
theorem dX4_bears_28 : decode cX4_bears 28 = .ok (.iload_n 3, 1) := by decide +kernel
theorem dX4_bears_29 : decode cX4_bears 29 = .ok (.ifCond .lt 38, 3) := by decide +kernel
theorem dX4_bears_32 : decode cX4_bears 32 = .ok (.aload_n 0, 1) := by decide +kernel
theorem dX4_bears_33 : decode cX4_bears 33 = .ok (.getfield 7, 3) := by decide +kernel
theorem dX4_bears_36 : decode cX4_bears 36 = .ok (.sipush 203, 3) := by decide +kernel
theorem dX4_bears_39 : decode cX4_bears 39 = .ok (.iload_n 1, 1) := by decide +kernel
theorem dX4_bears_40 : decode cX4_bears 40 = .ok (.iadd, 1) := by decide +kernel
theorem dX4_bears_41 : decode cX4_bears 41 = .ok (.iload_n 3, 1) := by decide +kernel
theorem dX4_bears_42 : decode cX4_bears 42 = .ok (.iastore, 1) := by decide +kernel
theorem dX4_bears_43 : decode cX4_bears 43 = .ok (.aload_n 0, 1) := by decide +kernel
theorem dX4_bears_44 : decode cX4_bears 44 = .ok (.sipush 195, 3) := by decide +kernel
theorem dX4_bears_47 : decode cX4_bears 47 = .ok (.iload_n 2, 1) := by decide +kernel
theorem dX4_bears_48 : decode cX4_bears 48 = .ok (.invokevirtual 185, 3) := by decide +kernel
theorem dX4_bears_51 : decode cX4_bears 51 = .ok (.pop, 1) := by decide +kernel
theorem dX4_bears_52 : decode cX4_bears 52 = .ok (.aload_n 0, 1) := by decide +kernel
theorem dX4_bears_53 : decode cX4_bears 53 = .ok (.invokevirtual 188, 3) := by decide +kernel
theorem dX4_bears_56 : decode cX4_bears 56 = .ok (.ifCond .ne 5, 3) := by decide +kernel
theorem dX4_bears_59 : decode cX4_bears 59 = .ok (.iload_n 3, 1) := by decide +kernel
theorem dX4_bears_60 : decode cX4_bears 60 = .ok (.ireturn, 1) := by decide +kernel
theorem dX4_bears_61 : decode cX4_bears 61 = .ok (.iinc 3 (-1), 3) := by decide +kernel
theorem dX4_bears_64 : decode cX4_bears 64 = .ok (.goto (-36), 3) := by decide +kernel
theorem dX4_bears_67 : decode cX4_bears 67 = .ok (.bipush (-4), 2) := by decide +kernel
theorem dX4_bears_69 : decode cX4_bears 69 = .ok (.ireturn, 1) := by decide +kernel
theorem dX4_swap_0 : decode cX4_swap 0 = .ok (.iload_n 1, 1) := by decide +kernel
theorem dX4_swap_1 : decode cX4_swap 1 = .ok (.invokestatic 180, 3) := by decide +kernel
theorem dX4_swap_4 : decode cX4_swap 4 = .ok (.ifCond .eq 13, 3) := by decide +kernel
theorem dX4_swap_7 : decode cX4_swap 7 = .ok (.iload_n 2, 1) := by decide +kernel
theorem dX4_swap_8 : decode cX4_swap 8 = .ok (.i2l, 1) := by decide +kernel
theorem dX4_swap_9 : decode cX4_swap 9 = .ok (.lconst 0, 1) := by decide +kernel
theorem dX4_swap_10 : decode cX4_swap 10 = .ok (.lconst 1, 1) := by decide +kernel
theorem dX4_swap_11 : decode cX4_swap 11 = .ok (.invokestatic 53, 3) := by decide +kernel
theorem dX4_swap_14 : decode cX4_swap 14 = .ok (.ifCond .ne 5, 3) := by decide +kernel
theorem dX4_swap_17 : decode cX4_swap 17 = .ok (.iconst (-1), 1) := by decide +kernel
theorem dX4_swap_18 : decode cX4_swap 18 = .ok (.ireturn, 1) := by decide +kernel
theorem dX4_swap_19 : decode cX4_swap 19 = .ok (.aload_n 0, 1) := by decide +kernel
theorem dX4_swap_20 : decode cX4_swap 20 = .ok (.iconst 0, 1) := by decide +kernel
theorem dX4_swap_21 : decode cX4_swap 21 = .ok (.iload_n 1, 1) := by decide +kernel
theorem dX4_swap_22 : decode cX4_swap 22 = .ok (.invokevirtual 185, 3) := by decide +kernel
theorem dX4_swap_25 : decode cX4_swap 25 = .ok (.istore_n 3, 1) := by decide +kernel
theorem dX4_swap_26 : decode cX4_swap 26 = .ok (.bipush (-4), 2) := by decide +kernel
theorem dX4_swap_28 : decode cX4_swap 28 = .ok (.istore 4, 2) := by decide +kernel
theorem dX4_swap_30 : decode cX4_swap 30 = .ok (.iconst 0, 1) := by decide +kernel
theorem dX4_swap_31 : decode cX4_swap 31 = .ok (.istore 5, 2) := by decide +kernel
theorem dX4_swap_33 : decode cX4_swap 33 = .ok (.iload 5, 2) := by decide +kernel
theorem dX4_swap_35 : decode cX4_swap 35 = .ok (.aload_n 0, 1) := by decide +kernel
theorem dX4_swap_36 : decode cX4_swap 36 = .ok (.getfield 7, 3) := by decide +kernel
theorem dX4_swap_39 : decode cX4_swap 39 = .ok (.bipush 33, 2) := by decide +kernel
theorem dX4_swap_41 : decode cX4_swap 41 = .ok (.iaload, 1) := by decide +kernel
theorem dX4_swap_42 : decode cX4_swap 42 = .ok (.if_icmp .ge 127, 3) := by decide +kernel
theorem dX4_swap_45 : decode cX4_swap 45 = .ok (.iload 5, 2) := by decide +kernel
theorem dX4_swap_47 : decode cX4_swap 47 = .ok (.iconst 1, 1) := by decide +kernel
theorem dX4_swap_48 : decode cX4_swap 48 = .ok (.iadd, 1) := by decide +kernel
theorem dX4_swap_49 : decode cX4_swap 49 = .ok (.istore 6, 2) := by decide +kernel
theorem dX4_swap_51 : decode cX4_swap 51 = .ok (.iload 6, 2) := by decide +kernel
theorem dX4_swap_53 : decode cX4_swap 53 = .ok (.aload_n 0, 1) := by decide +kernel
theorem dX4_swap_54 : decode cX4_swap 54 = .ok (.getfield 7, 3) := by decide +kernel
theorem dX4_swap_57 : decode cX4_swap 57 = .ok (.bipush 33, 2) := by decide +kernel
theorem dX4_swap_59 : decode cX4_swap 59 = .ok (.iaload, 1) := by decide +kernel
theorem dX4_swap_60 : decode cX4_swap 60 = .ok (.if_icmp .ge 103, 3) := by decide +kernel
theorem dX4_swap_63 : decode cX4_swap 63 = .ok (.aload_n 0, 1) := by decide +kernel
theorem dX4_swap_64 : decode cX4_swap 64 = .ok (.iconst 0, 1) := by decide +kernel
theorem dX4_swap_65 : decode cX4_swap 65 = .ok (.sipush 195, 3) := by decide +kernel
theorem dX4_swap_68 : decode cX4_swap 68 = .ok (.invokevirtual 176, 3) := by decide +kernel
theorem dX4_swap_71 : decode cX4_swap 71 = .ok (.aload_n 0, 1) := by decide +kernel
theorem dX4_swap_72 : decode cX4_swap 72 = .ok (.getfield 7, 3) := by decide +kernel
theorem dX4_swap_75 : decode cX4_swap 75 = .ok (.sipush 212, 3) := by decide +kernel
theorem dX4_swap_78 : decode cX4_swap 78 = .ok (.iload 5, 2) := by decide +kernel
theorem dX4_swap_80 : decode cX4_swap 80 = .ok (.iadd, 1) := by decide +kernel
theorem dX4_swap_81 : decode cX4_swap 81 = .ok (.aload_n 0, 1) := by decide +kernel
theorem dX4_swap_82 : decode cX4_swap 82 = .ok (.getfield 7, 3) := by decide +kernel
theorem dX4_swap_85 : decode cX4_swap 85 = .ok (.bipush 17, 2) := by decide +kernel
theorem dX4_swap_87 : decode cX4_swap 87 = .ok (.iload 6, 2) := by decide +kernel
theorem dX4_swap_89 : decode cX4_swap 89 = .ok (.iadd, 1) := by decide +kernel
theorem dX4_swap_90 : decode cX4_swap 90 = .ok (.iaload, 1) := by decide +kernel
theorem dX4_swap_91 : decode cX4_swap 91 = .ok (.iastore, 1) := by decide +kernel
theorem dX4_swap_92 : decode cX4_swap 92 = .ok (.aload_n 0, 1) := by decide +kernel
theorem dX4_swap_93 : decode cX4_swap 93 = .ok (.getfield 7, 3) := by decide +kernel
theorem dX4_swap_96 : decode cX4_swap 96 = .ok (.sipush 212, 3) := by decide +kernel
theorem dX4_swap_99 : decode cX4_swap 99 = .ok (.iload 6, 2) := by decide +kernel
theorem dX4_swap_101 : decode cX4_swap 101 = .ok (.iadd, 1) := by decide +kernel
theorem dX4_swap_102 : decode cX4_swap 102 = .ok (.aload_n 0, 1) := by decide +kernel
theorem dX4_swap_103 : decode cX4_swap 103 = .ok (.getfield 7, 3) := by decide +kernel
theorem dX4_swap_106 : decode cX4_swap 106 = .ok (.bipush 17, 2) := by decide +kernel
theorem dX4_swap_108 : decode cX4_swap 108 = .ok (.iload 5, 2) := by decide +kernel
theorem dX4_swap_110 : decode cX4_swap 110 = .ok (.iadd, 1) := by decide +kernel
theorem dX4_swap_111 : decode cX4_swap 111 = .ok (.iaload, 1) := by decide +kernel
theorem dX4_swap_112 : decode cX4_swap 112 = .ok (.iastore, 1) := by decide +kernel
theorem dX4_swap_113 : decode cX4_swap 113 = .ok (.aload_n 0, 1) := by decide +kernel
theorem dX4_swap_114 : decode cX4_swap 114 = .ok (.sipush 195, 3) := by decide +kernel
theorem dX4_swap_117 : decode cX4_swap 117 = .ok (.iload_n 1, 1) := by decide +kernel
theorem dX4_swap_118 : decode cX4_swap 118 = .ok (.invokevirtual 185, 3) := by decide +kernel
theorem dX4_swap_121 : decode cX4_swap 121 = .ok (.istore 7, 2) := by decide +kernel
theorem dX4_swap_123 : decode cX4_swap 123 = .ok (.iload 7, 2) := by decide +kernel
theorem dX4_swap_125 : decode cX4_swap 125 = .ok (.iload_n 3, 1) := by decide +kernel
theorem dX4_swap_126 : decode cX4_swap 126 = .ok (.if_icmp .le 14, 3) := by decide +kernel
theorem dX4_swap_129 : decode cX4_swap 129 = .ok (.bipush 100, 2) := by decide +kernel
theorem dX4_swap_131 : decode cX4_swap 131 = .ok (.iload 5, 2) := by decide +kernel
theorem dX4_swap_133 : decode cX4_swap 133 = .ok (.imul, 1) := by decide +kernel
theorem dX4_swap_134 : decode cX4_swap 134 = .ok (.iload 6, 2) := by decide +kernel
theorem dX4_swap_136 : decode cX4_swap 136 = .ok (.iadd, 1) := by decide +kernel
theorem dX4_swap_137 : decode cX4_swap 137 = .ok (.goto 5, 3) := by decide +kernel
theorem dX4_swap_140 : decode cX4_swap 140 = .ok (.iload 4, 2) := by decide +kernel
theorem dX4_swap_142 : decode cX4_swap 142 = .ok (.istore 4, 2) := by decide +kernel
theorem dX4_swap_144 : decode cX4_swap 144 = .ok (.iload 7, 2) := by decide +kernel
theorem dX4_swap_146 : decode cX4_swap 146 = .ok (.iload_n 3, 1) := by decide +kernel
theorem dX4_swap_147 : decode cX4_swap 147 = .ok (.if_icmp .le 8, 3) := by decide +kernel
theorem dX4_swap_150 : decode cX4_swap 150 = .ok (.iload 7, 2) := by decide +kernel
theorem dX4_swap_152 : decode cX4_swap 152 = .ok (.goto 4, 3) := by decide +kernel
theorem dX4_swap_155 : decode cX4_swap 155 = .ok (.iload_n 3, 1) := by decide +kernel
theorem dX4_swap_156 : decode cX4_swap 156 = .ok (.istore_n 3, 1) := by decide +kernel
theorem dX4_swap_157 : decode cX4_swap 157 = .ok (.iinc 6 1, 3) := by decide +kernel
theorem dX4_swap_160 : decode cX4_swap 160 = .ok (.goto (-109), 3) := by decide +kernel
theorem dX4_swap_163 : decode cX4_swap 163 = .ok (.iinc 5 1, 3) := by decide +kernel
theorem dX4_swap_166 : decode cX4_swap 166 = .ok (.goto (-133), 3) := by decide +kernel
theorem dX4_swap_169 : decode cX4_swap 169 = .ok (.iload 4, 2) := by decide +kernel
theorem dX4_swap_171 : decode cX4_swap 171 = .ok (.bipush (-4), 2) := by decide +kernel
theorem dX4_swap_173 : decode cX4_swap 173 = .ok (.if_icmp .eq 7, 3) := by decide +kernel
theorem dX4_swap_176 : decode cX4_swap 176 = .ok (.iload_n 2, 1) := by decide +kernel
theorem dX4_swap_177 : decode cX4_swap 177 = .ok (.ifCond .ne 8, 3) := by decide +kernel
theorem dX4_swap_180 : decode cX4_swap 180 = .ok (.iload 4, 2) := by decide +kernel
theorem dX4_swap_182 : decode cX4_swap 182 = .ok (.goto 4, 3) := by decide +kernel
theorem dX4_swap_185 : decode cX4_swap 185 = .ok (.iload_n 3, 1) := by decide +kernel
theorem dX4_swap_186 : decode cX4_swap 186 = .ok (.ireturn, 1) := by decide +kernel
theorem dX4_omit_0 : decode cX4_omit 0 = .ok (.iload_n 1, 1) := by decide +kernel
theorem dX4_omit_1 : decode cX4_omit 1 = .ok (.invokestatic 180, 3) := by decide +kernel
theorem dX4_omit_4 : decode cX4_omit 4 = .ok (.ifCond .eq 13, 3) := by decide +kernel
theorem dX4_omit_7 : decode cX4_omit 7 = .ok (.iload_n 2, 1) := by decide +kernel
theorem dX4_omit_8 : decode cX4_omit 8 = .ok (.i2l, 1) := by decide +kernel
theorem dX4_omit_9 : decode cX4_omit 9 = .ok (.lconst 0, 1) := by decide +kernel
theorem dX4_omit_10 : decode cX4_omit 10 = .ok (.lconst 1, 1) := by decide +kernel
theorem dX4_omit_11 : decode cX4_omit 11 = .ok (.invokestatic 53, 3) := by decide +kernel
theorem dX4_omit_14 : decode cX4_omit 14 = .ok (.ifCond .ne 5, 3) := by decide +kernel
theorem dX4_omit_17 : decode cX4_omit 17 = .ok (.iconst (-1), 1) := by decide +kernel
theorem dX4_omit_18 : decode cX4_omit 18 = .ok (.ireturn, 1) := by decide +kernel
theorem dX4_omit_19 : decode cX4_omit 19 = .ok (.aload_n 0, 1) := by decide +kernel
theorem dX4_omit_20 : decode cX4_omit 20 = .ok (.iconst 0, 1) := by decide +kernel
theorem dX4_omit_21 : decode cX4_omit 21 = .ok (.iload_n 1, 1) := by decide +kernel
theorem dX4_omit_22 : decode cX4_omit 22 = .ok (.invokevirtual 185, 3) := by decide +kernel
theorem dX4_omit_25 : decode cX4_omit 25 = .ok (.istore_n 3, 1) := by decide +kernel
theorem dX4_omit_26 : decode cX4_omit 26 = .ok (.bipush (-4), 2) := by decide +kernel
theorem dX4_omit_28 : decode cX4_omit 28 = .ok (.istore 4, 2) := by decide +kernel
theorem dX4_omit_30 : decode cX4_omit 30 = .ok (.iconst 0, 1) := by decide +kernel
theorem dX4_omit_31 : decode cX4_omit 31 = .ok (.istore 5, 2) := by decide +kernel
theorem dX4_omit_33 : decode cX4_omit 33 = .ok (.iload 5, 2) := by decide +kernel
theorem dX4_omit_35 : decode cX4_omit 35 = .ok (.aload_n 0, 1) := by decide +kernel
theorem dX4_omit_36 : decode cX4_omit 36 = .ok (.getfield 7, 3) := by decide +kernel
theorem dX4_omit_39 : decode cX4_omit 39 = .ok (.bipush 33, 2) := by decide +kernel
theorem dX4_omit_41 : decode cX4_omit 41 = .ok (.iaload, 1) := by decide +kernel
theorem dX4_omit_42 : decode cX4_omit 42 = .ok (.if_icmp .ge 57, 3) := by decide +kernel
theorem dX4_omit_45 : decode cX4_omit 45 = .ok (.aload_n 0, 1) := by decide +kernel
theorem dX4_omit_46 : decode cX4_omit 46 = .ok (.iload 5, 2) := by decide +kernel
theorem dX4_omit_48 : decode cX4_omit 48 = .ok (.putfield 29, 3) := by decide +kernel
theorem dX4_omit_51 : decode cX4_omit 51 = .ok (.aload_n 0, 1) := by decide +kernel
theorem dX4_omit_52 : decode cX4_omit 52 = .ok (.iconst 0, 1) := by decide +kernel
theorem dX4_omit_53 : decode cX4_omit 53 = .ok (.iload_n 1, 1) := by decide +kernel
theorem dX4_omit_54 : decode cX4_omit 54 = .ok (.invokevirtual 185, 3) := by decide +kernel
theorem dX4_omit_57 : decode cX4_omit 57 = .ok (.istore 6, 2) := by decide +kernel
theorem dX4_omit_59 : decode cX4_omit 59 = .ok (.aload_n 0, 1) := by decide +kernel
theorem dX4_omit_60 : decode cX4_omit 60 = .ok (.bipush (-4), 2) := by decide +kernel
theorem dX4_omit_62 : decode cX4_omit 62 = .ok (.putfield 29, 3) := by decide +kernel
theorem dX4_omit_65 : decode cX4_omit 65 = .ok (.iload 6, 2) := by decide +kernel
theorem dX4_omit_67 : decode cX4_omit 67 = .ok (.iload_n 3, 1) := by decide +kernel
theorem dX4_omit_68 : decode cX4_omit 68 = .ok (.if_icmp .le 8, 3) := by decide +kernel
theorem dX4_omit_71 : decode cX4_omit 71 = .ok (.iload 5, 2) := by decide +kernel
theorem dX4_omit_73 : decode cX4_omit 73 = .ok (.goto 5, 3) := by decide +kernel
theorem dX4_omit_76 : decode cX4_omit 76 = .ok (.iload 4, 2) := by decide +kernel
theorem dX4_omit_78 : decode cX4_omit 78 = .ok (.istore 4, 2) := by decide +kernel
theorem dX4_omit_80 : decode cX4_omit 80 = .ok (.iload 6, 2) := by decide +kernel
theorem dX4_omit_82 : decode cX4_omit 82 = .ok (.iload_n 3, 1) := by decide +kernel
theorem dX4_omit_83 : decode cX4_omit 83 = .ok (.if_icmp .le 8, 3) := by decide +kernel
theorem dX4_omit_86 : decode cX4_omit 86 = .ok (.iload 6, 2) := by decide +kernel
theorem dX4_omit_88 : decode cX4_omit 88 = .ok (.goto 4, 3) := by decide +kernel
theorem dX4_omit_91 : decode cX4_omit 91 = .ok (.iload_n 3, 1) := by decide +kernel
theorem dX4_omit_92 : decode cX4_omit 92 = .ok (.istore_n 3, 1) := by decide +kernel
theorem dX4_omit_93 : decode cX4_omit 93 = .ok (.iinc 5 1, 3) := by decide +kernel
theorem dX4_omit_96 : decode cX4_omit 96 = .ok (.goto (-63), 3) := by decide +kernel
theorem dX4_omit_99 : decode cX4_omit 99 = .ok (.iload 4, 2) := by decide +kernel
theorem dX4_omit_101 : decode cX4_omit 101 = .ok (.bipush (-4), 2) := by decide +kernel
theorem dX4_omit_103 : decode cX4_omit 103 = .ok (.if_icmp .eq 7, 3) := by decide +kernel
theorem dX4_omit_106 : decode cX4_omit 106 = .ok (.iload_n 2, 1) := by decide +kernel
theorem dX4_omit_107 : decode cX4_omit 107 = .ok (.ifCond .ne 8, 3) := by decide +kernel
theorem dX4_omit_110 : decode cX4_omit 110 = .ok (.iload 4, 2) := by decide +kernel
theorem dX4_omit_112 : decode cX4_omit 112 = .ok (.goto 4, 3) := by decide +kernel
theorem dX4_omit_115 : decode cX4_omit 115 = .ok (.iload_n 3, 1) := by decide +kernel
theorem dX4_omit_116 : decode cX4_omit 116 = .ok (.ireturn, 1) := by decide +kernel
theorem dX4_off_0 : decode cX4_off 0 = .ok (.iload_n 1, 1) := by decide +kernel
theorem dX4_off_1 : decode cX4_off 1 = .ok (.invokestatic 180, 3) := by decide +kernel
theorem dX4_off_4 : decode cX4_off 4 = .ok (.ifCond .eq 13, 3) := by decide +kernel
theorem dX4_off_7 : decode cX4_off 7 = .ok (.iload_n 2, 1) := by decide +kernel
theorem dX4_off_8 : decode cX4_off 8 = .ok (.i2l, 1) := by decide +kernel
theorem dX4_off_9 : decode cX4_off 9 = .ok (.lconst 0, 1) := by decide +kernel
theorem dX4_off_10 : decode cX4_off 10 = .ok (.lconst 1, 1) := by decide +kernel
theorem dX4_off_11 : decode cX4_off 11 = .ok (.invokestatic 53, 3) := by decide +kernel
theorem dX4_off_14 : decode cX4_off 14 = .ok (.ifCond .ne 5, 3) := by decide +kernel
theorem dX4_off_17 : decode cX4_off 17 = .ok (.iconst (-1), 1) := by decide +kernel
theorem dX4_off_18 : decode cX4_off 18 = .ok (.ireturn, 1) := by decide +kernel
theorem dX4_off_19 : decode cX4_off 19 = .ok (.aload_n 0, 1) := by decide +kernel
theorem dX4_off_20 : decode cX4_off 20 = .ok (.iconst 0, 1) := by decide +kernel
theorem dX4_off_21 : decode cX4_off 21 = .ok (.iload_n 1, 1) := by decide +kernel
theorem dX4_off_22 : decode cX4_off 22 = .ok (.invokevirtual 185, 3) := by decide +kernel
theorem dX4_off_25 : decode cX4_off 25 = .ok (.istore_n 3, 1) := by decide +kernel
theorem dX4_off_26 : decode cX4_off 26 = .ok (.bipush (-4), 2) := by decide +kernel
theorem dX4_off_28 : decode cX4_off 28 = .ok (.istore 4, 2) := by decide +kernel
theorem dX4_off_30 : decode cX4_off 30 = .ok (.iconst 0, 1) := by decide +kernel
theorem dX4_off_31 : decode cX4_off 31 = .ok (.istore 5, 2) := by decide +kernel
theorem dX4_off_33 : decode cX4_off 33 = .ok (.iload 5, 2) := by decide +kernel
theorem dX4_off_35 : decode cX4_off 35 = .ok (.aload_n 0, 1) := by decide +kernel
theorem dX4_off_36 : decode cX4_off 36 = .ok (.getfield 7, 3) := by decide +kernel
theorem dX4_off_39 : decode cX4_off 39 = .ok (.bipush 16, 2) := by decide +kernel
theorem dX4_off_41 : decode cX4_off 41 = .ok (.iaload, 1) := by decide +kernel
theorem dX4_off_42 : decode cX4_off 42 = .ok (.if_icmp .ge 57, 3) := by decide +kernel
theorem dX4_off_45 : decode cX4_off 45 = .ok (.aload_n 0, 1) := by decide +kernel
theorem dX4_off_46 : decode cX4_off 46 = .ok (.iload 5, 2) := by decide +kernel
theorem dX4_off_48 : decode cX4_off 48 = .ok (.putfield 25, 3) := by decide +kernel
theorem dX4_off_51 : decode cX4_off 51 = .ok (.aload_n 0, 1) := by decide +kernel
theorem dX4_off_52 : decode cX4_off 52 = .ok (.iconst 0, 1) := by decide +kernel
theorem dX4_off_53 : decode cX4_off 53 = .ok (.iload_n 1, 1) := by decide +kernel
theorem dX4_off_54 : decode cX4_off 54 = .ok (.invokevirtual 185, 3) := by decide +kernel
theorem dX4_off_57 : decode cX4_off 57 = .ok (.istore 6, 2) := by decide +kernel
theorem dX4_off_59 : decode cX4_off 59 = .ok (.aload_n 0, 1) := by decide +kernel
theorem dX4_off_60 : decode cX4_off 60 = .ok (.bipush (-4), 2) := by decide +kernel
theorem dX4_off_62 : decode cX4_off 62 = .ok (.putfield 25, 3) := by decide +kernel
theorem dX4_off_65 : decode cX4_off 65 = .ok (.iload 6, 2) := by decide +kernel
theorem dX4_off_67 : decode cX4_off 67 = .ok (.iload_n 3, 1) := by decide +kernel
theorem dX4_off_68 : decode cX4_off 68 = .ok (.if_icmp .le 8, 3) := by decide +kernel
theorem dX4_off_71 : decode cX4_off 71 = .ok (.iload 5, 2) := by decide +kernel
theorem dX4_off_73 : decode cX4_off 73 = .ok (.goto 5, 3) := by decide +kernel
theorem dX4_off_76 : decode cX4_off 76 = .ok (.iload 4, 2) := by decide +kernel
theorem dX4_off_78 : decode cX4_off 78 = .ok (.istore 4, 2) := by decide +kernel
theorem dX4_off_80 : decode cX4_off 80 = .ok (.iload 6, 2) := by decide +kernel
theorem dX4_off_82 : decode cX4_off 82 = .ok (.iload_n 3, 1) := by decide +kernel
theorem dX4_off_83 : decode cX4_off 83 = .ok (.if_icmp .le 8, 3) := by decide +kernel
theorem dX4_off_86 : decode cX4_off 86 = .ok (.iload 6, 2) := by decide +kernel
theorem dX4_off_88 : decode cX4_off 88 = .ok (.goto 4, 3) := by decide +kernel
theorem dX4_off_91 : decode cX4_off 91 = .ok (.iload_n 3, 1) := by decide +kernel
theorem dX4_off_92 : decode cX4_off 92 = .ok (.istore_n 3, 1) := by decide +kernel
theorem dX4_off_93 : decode cX4_off 93 = .ok (.iinc 5 1, 3) := by decide +kernel
theorem dX4_off_96 : decode cX4_off 96 = .ok (.goto (-63), 3) := by decide +kernel
theorem dX4_off_99 : decode cX4_off 99 = .ok (.iload 4, 2) := by decide +kernel
theorem dX4_off_101 : decode cX4_off 101 = .ok (.bipush (-4), 2) := by decide +kernel
theorem dX4_off_103 : decode cX4_off 103 = .ok (.if_icmp .eq 7, 3) := by decide +kernel
theorem dX4_off_106 : decode cX4_off 106 = .ok (.iload_n 2, 1) := by decide +kernel
theorem dX4_off_107 : decode cX4_off 107 = .ok (.ifCond .ne 8, 3) := by decide +kernel
theorem dX4_off_110 : decode cX4_off 110 = .ok (.iload 4, 2) := by decide +kernel
theorem dX4_off_112 : decode cX4_off 112 = .ok (.goto 4, 3) := by decide +kernel
theorem dX4_off_115 : decode cX4_off 115 = .ok (.iload_n 3, 1) := by decide +kernel
theorem dX4_off_116 : decode cX4_off 116 = .ok (.ireturn, 1) := by decide +kernel
theorem dX4_lowest_0 : decode cX4_lowest 0 = .ok (.lload_n 0, 1) := by decide +kernel
theorem dX4_lowest_1 : decode cX4_lowest 1 = .ok (.lstore 5, 2) := by decide +kernel
theorem dX4_lowest_3 : decode cX4_lowest 3 = .ok (.lload_n 2, 1) := by decide +kernel
theorem dX4_lowest_4 : decode cX4_lowest 4 = .ok (.lstore 7, 2) := by decide +kernel
theorem dX4_lowest_6 : decode cX4_lowest 6 = .ok (.lload 7, 2) := by decide +kernel
theorem dX4_lowest_8 : decode cX4_lowest 8 = .ok (.lconst 0, 1) := by decide +kernel
theorem dX4_lowest_9 : decode cX4_lowest 9 = .ok (.lcmp, 1) := by decide +kernel
theorem dX4_lowest_10 : decode cX4_lowest 10 = .ok (.ifCond .eq 21, 3) := by decide +kernel
theorem dX4_lowest_13 : decode cX4_lowest 13 = .ok (.lload 5, 2) := by decide +kernel
theorem dX4_lowest_15 : decode cX4_lowest 15 = .ok (.lload 7, 2) := by decide +kernel
theorem dX4_lowest_17 : decode cX4_lowest 17 = .ok (.lrem, 1) := by decide +kernel
theorem dX4_lowest_18 : decode cX4_lowest 18 = .ok (.lstore 9, 2) := by decide +kernel
theorem dX4_lowest_20 : decode cX4_lowest 20 = .ok (.lload 7, 2) := by decide +kernel
theorem dX4_lowest_22 : decode cX4_lowest 22 = .ok (.lstore 5, 2) := by decide +kernel
theorem dX4_lowest_24 : decode cX4_lowest 24 = .ok (.lload 9, 2) := by decide +kernel
theorem dX4_lowest_26 : decode cX4_lowest 26 = .ok (.lstore 7, 2) := by decide +kernel
theorem dX4_lowest_28 : decode cX4_lowest 28 = .ok (.goto (-22), 3) := by decide +kernel
theorem dX4_lowest_31 : decode cX4_lowest 31 = .ok (.iload 4, 2) := by decide +kernel
theorem dX4_lowest_33 : decode cX4_lowest 33 = .ok (.ifCond .ne 7, 3) := by decide +kernel
theorem dX4_lowest_36 : decode cX4_lowest 36 = .ok (.lload_n 0, 1) := by decide +kernel
theorem dX4_lowest_37 : decode cX4_lowest 37 = .ok (.goto 4, 3) := by decide +kernel
theorem dX4_lowest_40 : decode cX4_lowest 40 = .ok (.lload_n 2, 1) := by decide +kernel
theorem dX4_lowest_41 : decode cX4_lowest 41 = .ok (.lload 5, 2) := by decide +kernel
theorem dX4_lowest_43 : decode cX4_lowest 43 = .ok (.ldiv, 1) := by decide +kernel
theorem dX4_lowest_44 : decode cX4_lowest 44 = .ok (.lreturn, 1) := by decide +kernel
theorem dX4_byFails_0 : decode cX4_byFails 0 = .ok (.lconst 0, 1) := by decide +kernel
theorem dX4_byFails_1 : decode cX4_byFails 1 = .ok (.lstore 5, 2) := by decide +kernel
theorem dX4_byFails_3 : decode cX4_byFails 3 = .ok (.lconst 1, 1) := by decide +kernel
theorem dX4_byFails_4 : decode cX4_byFails 4 = .ok (.lstore 7, 2) := by decide +kernel
theorem dX4_byFails_6 : decode cX4_byFails 6 = .ok (.iconst 0, 1) := by decide +kernel
theorem dX4_byFails_7 : decode cX4_byFails 7 = .ok (.istore 9, 2) := by decide +kernel
theorem dX4_byFails_9 : decode cX4_byFails 9 = .ok (.iload 9, 2) := by decide +kernel
theorem dX4_byFails_11 : decode cX4_byFails 11 = .ok (.iload_n 2, 1) := by decide +kernel
theorem dX4_byFails_12 : decode cX4_byFails 12 = .ok (.if_icmp .ge 17, 3) := by decide +kernel
theorem dX4_byFails_15 : decode cX4_byFails 15 = .ok (.lload 7, 2) := by decide +kernel
theorem dX4_byFails_17 : decode cX4_byFails 17 = .ok (.ldc2_w 198, 3) := by decide +kernel
theorem dX4_byFails_20 : decode cX4_byFails 20 = .ok (.lmul, 1) := by decide +kernel
theorem dX4_byFails_21 : decode cX4_byFails 21 = .ok (.lstore 7, 2) := by decide +kernel
theorem dX4_byFails_23 : decode cX4_byFails 23 = .ok (.iinc 9 1, 3) := by decide +kernel
theorem dX4_byFails_26 : decode cX4_byFails 26 = .ok (.goto (-17), 3) := by decide +kernel
theorem dX4_byFails_29 : decode cX4_byFails 29 = .ok (.iconst 0, 1) := by decide +kernel
theorem dX4_byFails_30 : decode cX4_byFails 30 = .ok (.istore 9, 2) := by decide +kernel
theorem dX4_byFails_32 : decode cX4_byFails 32 = .ok (.iload 9, 2) := by decide +kernel
theorem dX4_byFails_34 : decode cX4_byFails 34 = .ok (.iconst 1, 1) := by decide +kernel
theorem dX4_byFails_35 : decode cX4_byFails 35 = .ok (.iload_n 2, 1) := by decide +kernel
theorem dX4_byFails_36 : decode cX4_byFails 36 = .ok (.ishl, 1) := by decide +kernel
theorem dX4_byFails_37 : decode cX4_byFails 37 = .ok (.if_icmp .ge 126, 3) := by decide +kernel
theorem dX4_byFails_40 : decode cX4_byFails 40 = .ok (.lconst 1, 1) := by decide +kernel
theorem dX4_byFails_41 : decode cX4_byFails 41 = .ok (.lstore 10, 2) := by decide +kernel
theorem dX4_byFails_43 : decode cX4_byFails 43 = .ok (.aload_n 0, 1) := by decide +kernel
theorem dX4_byFails_44 : decode cX4_byFails 44 = .ok (.iconst 0, 1) := by decide +kernel
theorem dX4_byFails_45 : decode cX4_byFails 45 = .ok (.sipush 156, 3) := by decide +kernel
theorem dX4_byFails_48 : decode cX4_byFails 48 = .ok (.invokevirtual 176, 3) := by decide +kernel
theorem dX4_byFails_51 : decode cX4_byFails 51 = .ok (.iconst 0, 1) := by decide +kernel
theorem dX4_byFails_52 : decode cX4_byFails 52 = .ok (.istore 12, 2) := by decide +kernel
theorem dX4_byFails_54 : decode cX4_byFails 54 = .ok (.iload 12, 2) := by decide +kernel
theorem dX4_byFails_56 : decode cX4_byFails 56 = .ok (.iload_n 2, 1) := by decide +kernel
theorem dX4_byFails_57 : decode cX4_byFails 57 = .ok (.if_icmp .ge 56, 3) := by decide +kernel
theorem dX4_byFails_60 : decode cX4_byFails 60 = .ok (.iload 9, 2) := by decide +kernel
theorem dX4_byFails_62 : decode cX4_byFails 62 = .ok (.iload 12, 2) := by decide +kernel
theorem dX4_byFails_64 : decode cX4_byFails 64 = .ok (.ishr, 1) := by decide +kernel
theorem dX4_byFails_65 : decode cX4_byFails 65 = .ok (.iconst 1, 1) := by decide +kernel
theorem dX4_byFails_66 : decode cX4_byFails 66 = .ok (.iand, 1) := by decide +kernel
theorem dX4_byFails_67 : decode cX4_byFails 67 = .ok (.iconst 1, 1) := by decide +kernel
theorem dX4_byFails_68 : decode cX4_byFails 68 = .ok (.if_icmp .ne 7, 3) := by decide +kernel
theorem dX4_byFails_71 : decode cX4_byFails 71 = .ok (.iconst 1, 1) := by decide +kernel
theorem dX4_byFails_72 : decode cX4_byFails 72 = .ok (.goto 4, 3) := by decide +kernel
theorem dX4_byFails_75 : decode cX4_byFails 75 = .ok (.iconst 0, 1) := by decide +kernel
theorem dX4_byFails_76 : decode cX4_byFails 76 = .ok (.istore 13, 2) := by decide +kernel
theorem dX4_byFails_78 : decode cX4_byFails 78 = .ok (.lload 10, 2) := by decide +kernel
theorem dX4_byFails_80 : decode cX4_byFails 80 = .ok (.iload 13, 2) := by decide +kernel
theorem dX4_byFails_82 : decode cX4_byFails 82 = .ok (.ifCond .eq 8, 3) := by decide +kernel
theorem dX4_byFails_85 : decode cX4_byFails 85 = .ok (.iload_n 1, 1) := by decide +kernel
theorem dX4_byFails_86 : decode cX4_byFails 86 = .ok (.i2l, 1) := by decide +kernel
theorem dX4_byFails_87 : decode cX4_byFails 87 = .ok (.goto 8, 3) := by decide +kernel
theorem dX4_byFails_90 : decode cX4_byFails 90 = .ok (.bipush 10, 2) := by decide +kernel
theorem dX4_byFails_92 : decode cX4_byFails 92 = .ok (.iload_n 1, 1) := by decide +kernel
theorem dX4_byFails_93 : decode cX4_byFails 93 = .ok (.isub, 1) := by decide +kernel
theorem dX4_byFails_94 : decode cX4_byFails 94 = .ok (.i2l, 1) := by decide +kernel
theorem dX4_byFails_95 : decode cX4_byFails 95 = .ok (.lmul, 1) := by decide +kernel
theorem dX4_byFails_96 : decode cX4_byFails 96 = .ok (.lstore 10, 2) := by decide +kernel
theorem dX4_byFails_98 : decode cX4_byFails 98 = .ok (.aload_n 0, 1) := by decide +kernel
theorem dX4_byFails_99 : decode cX4_byFails 99 = .ok (.sipush 156, 3) := by decide +kernel
theorem dX4_byFails_102 : decode cX4_byFails 102 = .ok (.iload 13, 2) := by decide +kernel
theorem dX4_byFails_104 : decode cX4_byFails 104 = .ok (.invokevirtual 172, 3) := by decide +kernel
theorem dX4_byFails_107 : decode cX4_byFails 107 = .ok (.iinc 12 1, 3) := by decide +kernel
theorem dX4_byFails_110 : decode cX4_byFails 110 = .ok (.goto (-56), 3) := by decide +kernel
theorem dX4_byFails_113 : decode cX4_byFails 113 = .ok (.lload 5, 2) := by decide +kernel
theorem dX4_byFails_115 : decode cX4_byFails 115 = .ok (.lload 10, 2) := by decide +kernel
theorem dX4_byFails_117 : decode cX4_byFails 117 = .ok (.iload_n 3, 1) := by decide +kernel
theorem dX4_byFails_118 : decode cX4_byFails 118 = .ok (.ifCond .eq 22, 3) := by decide +kernel
theorem dX4_byFails_121 : decode cX4_byFails 121 = .ok (.aload_n 0, 1) := by decide +kernel
theorem dX4_byFails_122 : decode cX4_byFails 122 = .ok (.getfield 7, 3) := by decide +kernel
theorem dX4_byFails_125 : decode cX4_byFails 125 = .ok (.sipush 193, 3) := by decide +kernel
theorem dX4_byFails_128 : decode cX4_byFails 128 = .ok (.iaload, 1) := by decide +kernel
theorem dX4_byFails_129 : decode cX4_byFails 129 = .ok (.aload_n 0, 1) := by decide +kernel
theorem dX4_byFails_130 : decode cX4_byFails 130 = .ok (.getfield 7, 3) := by decide +kernel
theorem dX4_byFails_133 : decode cX4_byFails 133 = .ok (.bipush 37, 2) := by decide +kernel
theorem dX4_byFails_135 : decode cX4_byFails 135 = .ok (.iaload, 1) := by decide +kernel
theorem dX4_byFails_136 : decode cX4_byFails 136 = .ok (.isub, 1) := by decide +kernel
theorem dX4_byFails_137 : decode cX4_byFails 137 = .ok (.goto 15, 3) := by decide +kernel
theorem dX4_byFails_140 : decode cX4_byFails 140 = .ok (.aload_n 0, 1) := by decide +kernel
theorem dX4_byFails_141 : decode cX4_byFails 141 = .ok (.invokevirtual 188, 3) := by decide +kernel
theorem dX4_byFails_144 : decode cX4_byFails 144 = .ok (.ifCond .ne 7, 3) := by decide +kernel
theorem dX4_byFails_147 : decode cX4_byFails 147 = .ok (.iconst 1, 1) := by decide +kernel
theorem dX4_byFails_148 : decode cX4_byFails 148 = .ok (.goto 4, 3) := by decide +kernel
theorem dX4_byFails_151 : decode cX4_byFails 151 = .ok (.iconst 0, 1) := by decide +kernel
theorem dX4_byFails_152 : decode cX4_byFails 152 = .ok (.i2l, 1) := by decide +kernel
theorem dX4_byFails_153 : decode cX4_byFails 153 = .ok (.lmul, 1) := by decide +kernel
theorem dX4_byFails_154 : decode cX4_byFails 154 = .ok (.ladd, 1) := by decide +kernel
theorem dX4_byFails_155 : decode cX4_byFails 155 = .ok (.lstore 5, 2) := by decide +kernel
theorem dX4_byFails_157 : decode cX4_byFails 157 = .ok (.iinc 9 1, 3) := by decide +kernel
theorem dX4_byFails_160 : decode cX4_byFails 160 = .ok (.goto (-128), 3) := by decide +kernel
theorem dX4_byFails_163 : decode cX4_byFails 163 = .ok (.lload 5, 2) := by decide +kernel
theorem dX4_byFails_165 : decode cX4_byFails 165 = .ok (.lload 7, 2) := by decide +kernel
theorem dX4_byFails_167 : decode cX4_byFails 167 = .ok (.iload 4, 2) := by decide +kernel
theorem dX4_byFails_169 : decode cX4_byFails 169 = .ok (.invokestatic 200, 3) := by decide +kernel
theorem dX4_byFails_172 : decode cX4_byFails 172 = .ok (.lreturn, 1) := by decide +kernel
theorem dX4_luck_0 : decode cX4_luck 0 = .ok (.iload_n 1, 1) := by decide +kernel
theorem dX4_luck_1 : decode cX4_luck 1 = .ok (.i2l, 1) := by decide +kernel
theorem dX4_luck_2 : decode cX4_luck 2 = .ok (.lconst 0, 1) := by decide +kernel
theorem dX4_luck_3 : decode cX4_luck 3 = .ok (.ldc2_w 198, 3) := by decide +kernel
theorem dX4_luck_6 : decode cX4_luck 6 = .ok (.invokestatic 53, 3) := by decide +kernel
theorem dX4_luck_9 : decode cX4_luck 9 = .ok (.ifCond .eq 36, 3) := by decide +kernel
theorem dX4_luck_12 : decode cX4_luck 12 = .ok (.iload_n 2, 1) := by decide +kernel
theorem dX4_luck_13 : decode cX4_luck 13 = .ok (.i2l, 1) := by decide +kernel
theorem dX4_luck_14 : decode cX4_luck 14 = .ok (.lconst 0, 1) := by decide +kernel
theorem dX4_luck_15 : decode cX4_luck 15 = .ok (.ldc2_w 204, 3) := by decide +kernel
theorem dX4_luck_18 : decode cX4_luck 18 = .ok (.invokestatic 53, 3) := by decide +kernel
theorem dX4_luck_21 : decode cX4_luck 21 = .ok (.ifCond .eq 24, 3) := by decide +kernel
theorem dX4_luck_24 : decode cX4_luck 24 = .ok (.iload_n 3, 1) := by decide +kernel
theorem dX4_luck_25 : decode cX4_luck 25 = .ok (.i2l, 1) := by decide +kernel
theorem dX4_luck_26 : decode cX4_luck 26 = .ok (.lconst 0, 1) := by decide +kernel
theorem dX4_luck_27 : decode cX4_luck 27 = .ok (.lconst 1, 1) := by decide +kernel
theorem dX4_luck_28 : decode cX4_luck 28 = .ok (.invokestatic 53, 3) := by decide +kernel
theorem dX4_luck_31 : decode cX4_luck 31 = .ok (.ifCond .eq 14, 3) := by decide +kernel
theorem dX4_luck_34 : decode cX4_luck 34 = .ok (.aload_n 0, 1) := by decide +kernel
theorem dX4_luck_35 : decode cX4_luck 35 = .ok (.iload_n 1, 1) := by decide +kernel
theorem dX4_luck_36 : decode cX4_luck 36 = .ok (.iload_n 2, 1) := by decide +kernel
theorem dX4_luck_37 : decode cX4_luck 37 = .ok (.iconst 0, 1) := by decide +kernel
theorem dX4_luck_38 : decode cX4_luck 38 = .ok (.iload_n 3, 1) := by decide +kernel
theorem dX4_luck_39 : decode cX4_luck 39 = .ok (.invokevirtual 206, 3) := by decide +kernel
theorem dX4_luck_42 : decode cX4_luck 42 = .ok (.goto 6, 3) := by decide +kernel
theorem dX4_luck_45 : decode cX4_luck 45 = .ok (.ldc2_w 210, 3) := by decide +kernel
theorem dX4_luck_48 : decode cX4_luck 48 = .ok (.lreturn, 1) := by decide +kernel
theorem dX4_mean_0 : decode cX4_mean 0 = .ok (.iload_n 1, 1) := by decide +kernel
theorem dX4_mean_1 : decode cX4_mean 1 = .ok (.i2l, 1) := by decide +kernel
theorem dX4_mean_2 : decode cX4_mean 2 = .ok (.lconst 0, 1) := by decide +kernel
theorem dX4_mean_3 : decode cX4_mean 3 = .ok (.ldc2_w 198, 3) := by decide +kernel
theorem dX4_mean_6 : decode cX4_mean 6 = .ok (.invokestatic 53, 3) := by decide +kernel
theorem dX4_mean_9 : decode cX4_mean 9 = .ok (.ifCond .eq 36, 3) := by decide +kernel
theorem dX4_mean_12 : decode cX4_mean 12 = .ok (.iload_n 2, 1) := by decide +kernel
theorem dX4_mean_13 : decode cX4_mean 13 = .ok (.i2l, 1) := by decide +kernel
theorem dX4_mean_14 : decode cX4_mean 14 = .ok (.lconst 0, 1) := by decide +kernel
theorem dX4_mean_15 : decode cX4_mean 15 = .ok (.ldc2_w 204, 3) := by decide +kernel
theorem dX4_mean_18 : decode cX4_mean 18 = .ok (.invokestatic 53, 3) := by decide +kernel
theorem dX4_mean_21 : decode cX4_mean 21 = .ok (.ifCond .eq 24, 3) := by decide +kernel
theorem dX4_mean_24 : decode cX4_mean 24 = .ok (.iload_n 3, 1) := by decide +kernel
theorem dX4_mean_25 : decode cX4_mean 25 = .ok (.i2l, 1) := by decide +kernel
theorem dX4_mean_26 : decode cX4_mean 26 = .ok (.lconst 0, 1) := by decide +kernel
theorem dX4_mean_27 : decode cX4_mean 27 = .ok (.lconst 1, 1) := by decide +kernel
theorem dX4_mean_28 : decode cX4_mean 28 = .ok (.invokestatic 53, 3) := by decide +kernel
theorem dX4_mean_31 : decode cX4_mean 31 = .ok (.ifCond .eq 14, 3) := by decide +kernel
theorem dX4_mean_34 : decode cX4_mean 34 = .ok (.aload_n 0, 1) := by decide +kernel
theorem dX4_mean_35 : decode cX4_mean 35 = .ok (.iload_n 1, 1) := by decide +kernel
theorem dX4_mean_36 : decode cX4_mean 36 = .ok (.iload_n 2, 1) := by decide +kernel
theorem dX4_mean_37 : decode cX4_mean 37 = .ok (.iconst 1, 1) := by decide +kernel
theorem dX4_mean_38 : decode cX4_mean 38 = .ok (.iload_n 3, 1) := by decide +kernel
theorem dX4_mean_39 : decode cX4_mean 39 = .ok (.invokevirtual 206, 3) := by decide +kernel
theorem dX4_mean_42 : decode cX4_mean 42 = .ok (.goto 6, 3) := by decide +kernel
theorem dX4_mean_45 : decode cX4_mean 45 = .ok (.ldc2_w 210, 3) := by decide +kernel
theorem dX4_mean_48 : decode cX4_mean 48 = .ok (.lreturn, 1) := by decide +kernel
theorem dX4_see_0 : decode cX4_see 0 = .ok (.iload_n 1, 1) := by decide +kernel
theorem dX4_see_1 : decode cX4_see 1 = .ok (.i2l, 1) := by decide +kernel
theorem dX4_see_2 : decode cX4_see 2 = .ok (.lconst 0, 1) := by decide +kernel
theorem dX4_see_3 : decode cX4_see 3 = .ok (.ldc2_w 212, 3) := by decide +kernel
theorem dX4_see_6 : decode cX4_see 6 = .ok (.invokestatic 53, 3) := by decide +kernel
theorem dX4_see_9 : decode cX4_see 9 = .ok (.ifCond .eq 23, 3) := by decide +kernel
theorem dX4_see_12 : decode cX4_see 12 = .ok (.aload_n 0, 1) := by decide +kernel
theorem dX4_see_13 : decode cX4_see 13 = .ok (.iload_n 2, 1) := by decide +kernel
theorem dX4_see_14 : decode cX4_see 14 = .ok (.invokevirtual 144, 3) := by decide +kernel
theorem dX4_see_17 : decode cX4_see 17 = .ok (.ifCond .eq 15, 3) := by decide +kernel
theorem dX4_see_20 : decode cX4_see 20 = .ok (.iload_n 3, 1) := by decide +kernel
theorem dX4_see_21 : decode cX4_see 21 = .ok (.i2l, 1) := by decide +kernel
theorem dX4_see_22 : decode cX4_see 22 = .ok (.lconst 0, 1) := by decide +kernel
theorem dX4_see_23 : decode cX4_see 23 = .ok (.ldc2_w 214, 3) := by decide +kernel
theorem dX4_see_26 : decode cX4_see 26 = .ok (.invokestatic 53, 3) := by decide +kernel
theorem dX4_see_29 : decode cX4_see 29 = .ok (.ifCond .ne 5, 3) := by decide +kernel
theorem dX4_see_32 : decode cX4_see 32 = .ok (.iconst (-1), 1) := by decide +kernel
theorem dX4_see_33 : decode cX4_see 33 = .ok (.ireturn, 1) := by decide +kernel
theorem dX4_see_34 : decode cX4_see 34 = .ok (.aload_n 0, 1) := by decide +kernel
theorem dX4_see_35 : decode cX4_see 35 = .ok (.getfield 120, 3) := by decide +kernel
theorem dX4_see_38 : decode cX4_see 38 = .ok (.bipush 6, 2) := by decide +kernel
theorem dX4_see_40 : decode cX4_see 40 = .ok (.if_icmp .ne 6, 3) := by decide +kernel
theorem dX4_see_43 : decode cX4_see 43 = .ok (.bipush (-3), 2) := by decide +kernel
theorem dX4_see_45 : decode cX4_see 45 = .ok (.ireturn, 1) := by decide +kernel
theorem dX4_see_46 : decode cX4_see 46 = .ok (.aload_n 0, 1) := by decide +kernel
theorem dX4_see_47 : decode cX4_see 47 = .ok (.getfield 32, 3) := by decide +kernel
theorem dX4_see_50 : decode cX4_see 50 = .ok (.iconst 3, 1) := by decide +kernel
theorem dX4_see_51 : decode cX4_see 51 = .ok (.aload_n 0, 1) := by decide +kernel
theorem dX4_see_52 : decode cX4_see 52 = .ok (.getfield 120, 3) := by decide +kernel
theorem dX4_see_55 : decode cX4_see 55 = .ok (.imul, 1) := by decide +kernel
theorem dX4_see_56 : decode cX4_see 56 = .ok (.iload_n 1, 1) := by decide +kernel
theorem dX4_see_57 : decode cX4_see 57 = .ok (.iastore, 1) := by decide +kernel
theorem dX4_see_58 : decode cX4_see 58 = .ok (.aload_n 0, 1) := by decide +kernel
theorem dX4_see_59 : decode cX4_see 59 = .ok (.getfield 32, 3) := by decide +kernel
theorem dX4_see_62 : decode cX4_see 62 = .ok (.iconst 3, 1) := by decide +kernel
theorem dX4_see_63 : decode cX4_see 63 = .ok (.aload_n 0, 1) := by decide +kernel
theorem dX4_see_64 : decode cX4_see 64 = .ok (.getfield 120, 3) := by decide +kernel
theorem dX4_see_67 : decode cX4_see 67 = .ok (.imul, 1) := by decide +kernel
theorem dX4_see_68 : decode cX4_see 68 = .ok (.iconst 1, 1) := by decide +kernel
theorem dX4_see_69 : decode cX4_see 69 = .ok (.iadd, 1) := by decide +kernel
theorem dX4_see_70 : decode cX4_see 70 = .ok (.iload_n 2, 1) := by decide +kernel
theorem dX4_see_71 : decode cX4_see 71 = .ok (.iastore, 1) := by decide +kernel
theorem dX4_see_72 : decode cX4_see 72 = .ok (.aload_n 0, 1) := by decide +kernel
theorem dX4_see_73 : decode cX4_see 73 = .ok (.getfield 32, 3) := by decide +kernel
theorem dX4_see_76 : decode cX4_see 76 = .ok (.iconst 3, 1) := by decide +kernel
theorem dX4_see_77 : decode cX4_see 77 = .ok (.aload_n 0, 1) := by decide +kernel
theorem dX4_see_78 : decode cX4_see 78 = .ok (.getfield 120, 3) := by decide +kernel
theorem dX4_see_81 : decode cX4_see 81 = .ok (.imul, 1) := by decide +kernel
theorem dX4_see_82 : decode cX4_see 82 = .ok (.iconst 2, 1) := by decide +kernel
theorem dX4_see_83 : decode cX4_see 83 = .ok (.iadd, 1) := by decide +kernel
theorem dX4_see_84 : decode cX4_see 84 = .ok (.iload_n 3, 1) := by decide +kernel
theorem dX4_see_85 : decode cX4_see 85 = .ok (.iastore, 1) := by decide +kernel
theorem dX4_see_86 : decode cX4_see 86 = .ok (.aload_n 0, 1) := by decide +kernel
theorem dX4_see_87 : decode cX4_see 87 = .ok (.dup, 1) := by decide +kernel
theorem dX4_see_88 : decode cX4_see 88 = .ok (.getfield 120, 3) := by decide +kernel
theorem dX4_see_91 : decode cX4_see 91 = .ok (.iconst 1, 1) := by decide +kernel
theorem dX4_see_92 : decode cX4_see 92 = .ok (.iadd, 1) := by decide +kernel
theorem dX4_see_93 : decode cX4_see 93 = .ok (.putfield 120, 3) := by decide +kernel
theorem dX4_see_96 : decode cX4_see 96 = .ok (.aload_n 0, 1) := by decide +kernel
theorem dX4_see_97 : decode cX4_see 97 = .ok (.getfield 120, 3) := by decide +kernel
theorem dX4_see_100 : decode cX4_see 100 = .ok (.ireturn, 1) := by decide +kernel
theorem dX4_forget_0 : decode cX4_forget 0 = .ok (.iload_n 1, 1) := by decide +kernel
theorem dX4_forget_1 : decode cX4_forget 1 = .ok (.i2l, 1) := by decide +kernel
theorem dX4_forget_2 : decode cX4_forget 2 = .ok (.lconst 0, 1) := by decide +kernel
theorem dX4_forget_3 : decode cX4_forget 3 = .ok (.aload_n 0, 1) := by decide +kernel
theorem dX4_forget_4 : decode cX4_forget 4 = .ok (.getfield 120, 3) := by decide +kernel
theorem dX4_forget_7 : decode cX4_forget 7 = .ok (.i2l, 1) := by decide +kernel
theorem dX4_forget_8 : decode cX4_forget 8 = .ok (.invokestatic 53, 3) := by decide +kernel
theorem dX4_forget_11 : decode cX4_forget 11 = .ok (.ifCond .ne 5, 3) := by decide +kernel
theorem dX4_forget_14 : decode cX4_forget 14 = .ok (.iconst (-1), 1) := by decide +kernel
theorem dX4_forget_15 : decode cX4_forget 15 = .ok (.ireturn, 1) := by decide +kernel
theorem dX4_forget_16 : decode cX4_forget 16 = .ok (.aload_n 0, 1) := by decide +kernel
theorem dX4_forget_17 : decode cX4_forget 17 = .ok (.getfield 120, 3) := by decide +kernel
theorem dX4_forget_20 : decode cX4_forget 20 = .ok (.istore_n 2, 1) := by decide +kernel
theorem dX4_forget_21 : decode cX4_forget 21 = .ok (.aload_n 0, 1) := by decide +kernel
theorem dX4_forget_22 : decode cX4_forget 22 = .ok (.iload_n 1, 1) := by decide +kernel
theorem dX4_forget_23 : decode cX4_forget 23 = .ok (.putfield 120, 3) := by decide +kernel
theorem dX4_forget_26 : decode cX4_forget 26 = .ok (.iload_n 2, 1) := by decide +kernel
theorem dX4_forget_27 : decode cX4_forget 27 = .ok (.ireturn, 1) := by decide +kernel
theorem dX4_isAsSeen_0 : decode cX4_isAsSeen 0 = .ok (.aload_n 0, 1) := by decide +kernel
theorem dX4_isAsSeen_1 : decode cX4_isAsSeen 1 = .ok (.iconst 0, 1) := by decide +kernel
theorem dX4_isAsSeen_2 : decode cX4_isAsSeen 2 = .ok (.sipush 156, 3) := by decide +kernel
theorem dX4_isAsSeen_5 : decode cX4_isAsSeen 5 = .ok (.invokevirtual 176, 3) := by decide +kernel
theorem dX4_isAsSeen_8 : decode cX4_isAsSeen 8 = .ok (.iconst 1, 1) := by decide +kernel
theorem dX4_isAsSeen_9 : decode cX4_isAsSeen 9 = .ok (.istore_n 3, 1) := by decide +kernel
theorem dX4_isAsSeen_10 : decode cX4_isAsSeen 10 = .ok (.iconst 0, 1) := by decide +kernel
theorem dX4_isAsSeen_11 : decode cX4_isAsSeen 11 = .ok (.istore 4, 2) := by decide +kernel
theorem dX4_isAsSeen_13 : decode cX4_isAsSeen 13 = .ok (.iload 4, 2) := by decide +kernel
theorem dX4_isAsSeen_15 : decode cX4_isAsSeen 15 = .ok (.bipush 40, 2) := by decide +kernel
theorem dX4_isAsSeen_17 : decode cX4_isAsSeen 17 = .ok (.if_icmp .gt 143, 3) := by decide +kernel
theorem dX4_isAsSeen_20 : decode cX4_isAsSeen 20 = .ok (.aload_n 0, 1) := by decide +kernel
theorem dX4_isAsSeen_21 : decode cX4_isAsSeen 21 = .ok (.getfield 35, 3) := by decide +kernel
theorem dX4_isAsSeen_24 : decode cX4_isAsSeen 24 = .ok (.bipush 41, 2) := by decide +kernel
theorem dX4_isAsSeen_26 : decode cX4_isAsSeen 26 = .ok (.iload_n 1, 1) := by decide +kernel
theorem dX4_isAsSeen_27 : decode cX4_isAsSeen 27 = .ok (.imul, 1) := by decide +kernel
theorem dX4_isAsSeen_28 : decode cX4_isAsSeen 28 = .ok (.iload 4, 2) := by decide +kernel
theorem dX4_isAsSeen_30 : decode cX4_isAsSeen 30 = .ok (.iadd, 1) := by decide +kernel
theorem dX4_isAsSeen_31 : decode cX4_isAsSeen 31 = .ok (.aload_n 0, 1) := by decide +kernel
theorem dX4_isAsSeen_32 : decode cX4_isAsSeen 32 = .ok (.getfield 7, 3) := by decide +kernel
theorem dX4_isAsSeen_35 : decode cX4_isAsSeen 35 = .ok (.sipush 168, 3) := by decide +kernel
theorem dX4_isAsSeen_38 : decode cX4_isAsSeen 38 = .ok (.iload_n 2, 1) := by decide +kernel
theorem dX4_isAsSeen_39 : decode cX4_isAsSeen 39 = .ok (.iadd, 1) := by decide +kernel
theorem dX4_isAsSeen_40 : decode cX4_isAsSeen 40 = .ok (.iaload, 1) := by decide +kernel
theorem dX4_isAsSeen_41 : decode cX4_isAsSeen 41 = .ok (.iastore, 1) := by decide +kernel
theorem dX4_isAsSeen_42 : decode cX4_isAsSeen 42 = .ok (.iconst 0, 1) := by decide +kernel
theorem dX4_isAsSeen_43 : decode cX4_isAsSeen 43 = .ok (.istore 5, 2) := by decide +kernel
theorem dX4_isAsSeen_45 : decode cX4_isAsSeen 45 = .ok (.iload 5, 2) := by decide +kernel
theorem dX4_isAsSeen_47 : decode cX4_isAsSeen 47 = .ok (.aload_n 0, 1) := by decide +kernel
theorem dX4_isAsSeen_48 : decode cX4_isAsSeen 48 = .ok (.getfield 120, 3) := by decide +kernel
theorem dX4_isAsSeen_51 : decode cX4_isAsSeen 51 = .ok (.if_icmp .ge 95, 3) := by decide +kernel
theorem dX4_isAsSeen_54 : decode cX4_isAsSeen 54 = .ok (.aload_n 0, 1) := by decide +kernel
theorem dX4_isAsSeen_55 : decode cX4_isAsSeen 55 = .ok (.getfield 32, 3) := by decide +kernel
theorem dX4_isAsSeen_58 : decode cX4_isAsSeen 58 = .ok (.iconst 3, 1) := by decide +kernel
theorem dX4_isAsSeen_59 : decode cX4_isAsSeen 59 = .ok (.iload 5, 2) := by decide +kernel
theorem dX4_isAsSeen_61 : decode cX4_isAsSeen 61 = .ok (.imul, 1) := by decide +kernel
theorem dX4_isAsSeen_62 : decode cX4_isAsSeen 62 = .ok (.iconst 1, 1) := by decide +kernel
theorem dX4_isAsSeen_63 : decode cX4_isAsSeen 63 = .ok (.iadd, 1) := by decide +kernel
theorem dX4_isAsSeen_64 : decode cX4_isAsSeen 64 = .ok (.iaload, 1) := by decide +kernel
theorem dX4_isAsSeen_65 : decode cX4_isAsSeen 65 = .ok (.istore 6, 2) := by decide +kernel
theorem dX4_isAsSeen_67 : decode cX4_isAsSeen 67 = .ok (.iload 6, 2) := by decide +kernel
theorem dX4_isAsSeen_69 : decode cX4_isAsSeen 69 = .ok (.aload_n 0, 1) := by decide +kernel
theorem dX4_isAsSeen_70 : decode cX4_isAsSeen 70 = .ok (.getfield 7, 3) := by decide +kernel
theorem dX4_isAsSeen_73 : decode cX4_isAsSeen 73 = .ok (.bipush 16, 2) := by decide +kernel
theorem dX4_isAsSeen_75 : decode cX4_isAsSeen 75 = .ok (.iaload, 1) := by decide +kernel
theorem dX4_isAsSeen_76 : decode cX4_isAsSeen 76 = .ok (.if_icmp .ge 32, 3) := by decide +kernel
theorem dX4_isAsSeen_79 : decode cX4_isAsSeen 79 = .ok (.aload_n 0, 1) := by decide +kernel
theorem dX4_isAsSeen_80 : decode cX4_isAsSeen 80 = .ok (.getfield 7, 3) := by decide +kernel
theorem dX4_isAsSeen_83 : decode cX4_isAsSeen 83 = .ok (.sipush 168, 3) := by decide +kernel
theorem dX4_isAsSeen_86 : decode cX4_isAsSeen 86 = .ok (.iload 6, 2) := by decide +kernel
theorem dX4_isAsSeen_88 : decode cX4_isAsSeen 88 = .ok (.iadd, 1) := by decide +kernel
theorem dX4_isAsSeen_89 : decode cX4_isAsSeen 89 = .ok (.iaload, 1) := by decide +kernel
theorem dX4_isAsSeen_90 : decode cX4_isAsSeen 90 = .ok (.aload_n 0, 1) := by decide +kernel
theorem dX4_isAsSeen_91 : decode cX4_isAsSeen 91 = .ok (.getfield 32, 3) := by decide +kernel
theorem dX4_isAsSeen_94 : decode cX4_isAsSeen 94 = .ok (.iconst 3, 1) := by decide +kernel
theorem dX4_isAsSeen_95 : decode cX4_isAsSeen 95 = .ok (.iload 5, 2) := by decide +kernel
theorem dX4_isAsSeen_97 : decode cX4_isAsSeen 97 = .ok (.imul, 1) := by decide +kernel
theorem dX4_isAsSeen_98 : decode cX4_isAsSeen 98 = .ok (.iconst 2, 1) := by decide +kernel
theorem dX4_isAsSeen_99 : decode cX4_isAsSeen 99 = .ok (.iadd, 1) := by decide +kernel
theorem dX4_isAsSeen_100 : decode cX4_isAsSeen 100 = .ok (.iaload, 1) := by decide +kernel
theorem dX4_isAsSeen_101 : decode cX4_isAsSeen 101 = .ok (.if_icmp .ne 7, 3) := by decide +kernel
theorem dX4_isAsSeen_104 : decode cX4_isAsSeen 104 = .ok (.iconst 1, 1) := by decide +kernel
theorem dX4_isAsSeen_105 : decode cX4_isAsSeen 105 = .ok (.goto 4, 3) := by decide +kernel
theorem dX4_isAsSeen_108 : decode cX4_isAsSeen 108 = .ok (.iconst 0, 1) := by decide +kernel
theorem dX4_isAsSeen_109 : decode cX4_isAsSeen 109 = .ok (.istore 7, 2) := by decide +kernel
theorem dX4_isAsSeen_111 : decode cX4_isAsSeen 111 = .ok (.iload_n 3, 1) := by decide +kernel
theorem dX4_isAsSeen_112 : decode cX4_isAsSeen 112 = .ok (.ifCond .eq 26, 3) := by decide +kernel
theorem dX4_isAsSeen_115 : decode cX4_isAsSeen 115 = .ok (.aload_n 0, 1) := by decide +kernel
theorem dX4_isAsSeen_116 : decode cX4_isAsSeen 116 = .ok (.getfield 32, 3) := by decide +kernel
theorem dX4_isAsSeen_119 : decode cX4_isAsSeen 119 = .ok (.iconst 3, 1) := by decide +kernel
theorem dX4_isAsSeen_120 : decode cX4_isAsSeen 120 = .ok (.iload 5, 2) := by decide +kernel
theorem dX4_isAsSeen_122 : decode cX4_isAsSeen 122 = .ok (.imul, 1) := by decide +kernel
theorem dX4_isAsSeen_123 : decode cX4_isAsSeen 123 = .ok (.iaload, 1) := by decide +kernel
theorem dX4_isAsSeen_124 : decode cX4_isAsSeen 124 = .ok (.iload 4, 2) := by decide +kernel
theorem dX4_isAsSeen_126 : decode cX4_isAsSeen 126 = .ok (.if_icmp .ne 8, 3) := by decide +kernel
theorem dX4_isAsSeen_129 : decode cX4_isAsSeen 129 = .ok (.iload 7, 2) := by decide +kernel
theorem dX4_isAsSeen_131 : decode cX4_isAsSeen 131 = .ok (.ifCond .eq 7, 3) := by decide +kernel
theorem dX4_isAsSeen_134 : decode cX4_isAsSeen 134 = .ok (.iconst 1, 1) := by decide +kernel
theorem dX4_isAsSeen_135 : decode cX4_isAsSeen 135 = .ok (.goto 4, 3) := by decide +kernel
theorem dX4_isAsSeen_138 : decode cX4_isAsSeen 138 = .ok (.iconst 0, 1) := by decide +kernel
theorem dX4_isAsSeen_139 : decode cX4_isAsSeen 139 = .ok (.istore_n 3, 1) := by decide +kernel
theorem dX4_isAsSeen_140 : decode cX4_isAsSeen 140 = .ok (.iinc 5 1, 3) := by decide +kernel
theorem dX4_isAsSeen_143 : decode cX4_isAsSeen 143 = .ok (.goto (-98), 3) := by decide +kernel
theorem dX4_isAsSeen_146 : decode cX4_isAsSeen 146 = .ok (.aload_n 0, 1) := by decide +kernel
theorem dX4_isAsSeen_147 : decode cX4_isAsSeen 147 = .ok (.sipush 156, 3) := by decide +kernel
theorem dX4_isAsSeen_150 : decode cX4_isAsSeen 150 = .ok (.iconst 0, 1) := by decide +kernel
theorem dX4_isAsSeen_151 : decode cX4_isAsSeen 151 = .ok (.invokevirtual 172, 3) := by decide +kernel
theorem dX4_isAsSeen_154 : decode cX4_isAsSeen 154 = .ok (.iinc 4 1, 3) := by decide +kernel
theorem dX4_isAsSeen_157 : decode cX4_isAsSeen 157 = .ok (.goto (-144), 3) := by decide +kernel
theorem dX4_isAsSeen_160 : decode cX4_isAsSeen 160 = .ok (.iload_n 3, 1) := by decide +kernel
theorem dX4_isAsSeen_161 : decode cX4_isAsSeen 161 = .ok (.ireturn, 1) := by decide +kernel
theorem dX4_numbersAt_0 : decode cX4_numbersAt 0 = .ok (.aload_n 0, 1) := by decide +kernel
theorem dX4_numbersAt_1 : decode cX4_numbersAt 1 = .ok (.getfield 7, 3) := by decide +kernel
theorem dX4_numbersAt_4 : decode cX4_numbersAt 4 = .ok (.iload_n 1, 1) := by decide +kernel
theorem dX4_numbersAt_5 : decode cX4_numbersAt 5 = .ok (.iaload, 1) := by decide +kernel
theorem dX4_numbersAt_6 : decode cX4_numbersAt 6 = .ok (.istore 4, 2) := by decide +kernel
theorem dX4_numbersAt_8 : decode cX4_numbersAt 8 = .ok (.iconst 0, 1) := by decide +kernel
theorem dX4_numbersAt_9 : decode cX4_numbersAt 9 = .ok (.istore 5, 2) := by decide +kernel
theorem dX4_numbersAt_11 : decode cX4_numbersAt 11 = .ok (.iconst 0, 1) := by decide +kernel
theorem dX4_numbersAt_12 : decode cX4_numbersAt 12 = .ok (.istore 6, 2) := by decide +kernel
theorem dX4_numbersAt_14 : decode cX4_numbersAt 14 = .ok (.iload 6, 2) := by decide +kernel
theorem dX4_numbersAt_16 : decode cX4_numbersAt 16 = .ok (.iload_n 3, 1) := by decide +kernel
theorem dX4_numbersAt_17 : decode cX4_numbersAt 17 = .ok (.if_icmp .ge 40, 3) := by decide +kernel
theorem dX4_numbersAt_20 : decode cX4_numbersAt 20 = .ok (.aload_n 0, 1) := by decide +kernel
theorem dX4_numbersAt_21 : decode cX4_numbersAt 21 = .ok (.getfield 7, 3) := by decide +kernel
theorem dX4_numbersAt_24 : decode cX4_numbersAt 24 = .ok (.iload_n 1, 1) := by decide +kernel
theorem dX4_numbersAt_25 : decode cX4_numbersAt 25 = .ok (.iload 6, 2) := by decide +kernel
theorem dX4_numbersAt_27 : decode cX4_numbersAt 27 = .ok (.iastore, 1) := by decide +kernel
theorem dX4_numbersAt_28 : decode cX4_numbersAt 28 = .ok (.iload 5, 2) := by decide +kernel
theorem dX4_numbersAt_30 : decode cX4_numbersAt 30 = .ok (.aload_n 0, 1) := by decide +kernel
theorem dX4_numbersAt_31 : decode cX4_numbersAt 31 = .ok (.iload 6, 2) := by decide +kernel
theorem dX4_numbersAt_33 : decode cX4_numbersAt 33 = .ok (.iload_n 2, 1) := by decide +kernel
theorem dX4_numbersAt_34 : decode cX4_numbersAt 34 = .ok (.invokevirtual 216, 3) := by decide +kernel
theorem dX4_numbersAt_37 : decode cX4_numbersAt 37 = .ok (.ifCond .eq 10, 3) := by decide +kernel
theorem dX4_numbersAt_40 : decode cX4_numbersAt 40 = .ok (.iconst 1, 1) := by decide +kernel
theorem dX4_numbersAt_41 : decode cX4_numbersAt 41 = .ok (.iload 6, 2) := by decide +kernel
theorem dX4_numbersAt_43 : decode cX4_numbersAt 43 = .ok (.ishl, 1) := by decide +kernel
theorem dX4_numbersAt_44 : decode cX4_numbersAt 44 = .ok (.goto 4, 3) := by decide +kernel
theorem dX4_numbersAt_47 : decode cX4_numbersAt 47 = .ok (.iconst 0, 1) := by decide +kernel
theorem dX4_numbersAt_48 : decode cX4_numbersAt 48 = .ok (.ior, 1) := by decide +kernel
theorem dX4_numbersAt_49 : decode cX4_numbersAt 49 = .ok (.istore 5, 2) := by decide +kernel
theorem dX4_numbersAt_51 : decode cX4_numbersAt 51 = .ok (.iinc 6 1, 3) := by decide +kernel
theorem dX4_numbersAt_54 : decode cX4_numbersAt 54 = .ok (.goto (-40), 3) := by decide +kernel
theorem dX4_numbersAt_57 : decode cX4_numbersAt 57 = .ok (.aload_n 0, 1) := by decide +kernel
theorem dX4_numbersAt_58 : decode cX4_numbersAt 58 = .ok (.getfield 7, 3) := by decide +kernel
theorem dX4_numbersAt_61 : decode cX4_numbersAt 61 = .ok (.iload_n 1, 1) := by decide +kernel
theorem dX4_numbersAt_62 : decode cX4_numbersAt 62 = .ok (.iload 4, 2) := by decide +kernel
theorem dX4_numbersAt_64 : decode cX4_numbersAt 64 = .ok (.iastore, 1) := by decide +kernel
theorem dX4_numbersAt_65 : decode cX4_numbersAt 65 = .ok (.iload 5, 2) := by decide +kernel
theorem dX4_numbersAt_67 : decode cX4_numbersAt 67 = .ok (.ireturn, 1) := by decide +kernel
theorem dX4_kinds_0 : decode cX4_kinds 0 = .ok (.aload_n 0, 1) := by decide +kernel
theorem dX4_kinds_1 : decode cX4_kinds 1 = .ok (.iload_n 1, 1) := by decide +kernel
theorem dX4_kinds_2 : decode cX4_kinds 2 = .ok (.invokevirtual 144, 3) := by decide +kernel
theorem dX4_kinds_5 : decode cX4_kinds 5 = .ok (.ifCond .eq 13, 3) := by decide +kernel
theorem dX4_kinds_8 : decode cX4_kinds 8 = .ok (.aload_n 0, 1) := by decide +kernel
theorem dX4_kinds_9 : decode cX4_kinds 9 = .ok (.iload_n 1, 1) := by decide +kernel
theorem dX4_kinds_10 : decode cX4_kinds 10 = .ok (.iload_n 1, 1) := by decide +kernel
theorem dX4_kinds_11 : decode cX4_kinds 11 = .ok (.iconst 4, 1) := by decide +kernel
theorem dX4_kinds_12 : decode cX4_kinds 12 = .ok (.invokevirtual 220, 3) := by decide +kernel
theorem dX4_kinds_15 : decode cX4_kinds 15 = .ok (.goto 4, 3) := by decide +kernel
theorem dX4_kinds_18 : decode cX4_kinds 18 = .ok (.iconst (-1), 1) := by decide +kernel
theorem dX4_kinds_19 : decode cX4_kinds 19 = .ok (.ireturn, 1) := by decide +kernel
theorem dX4_losses_0 : decode cX4_losses 0 = .ok (.aload_n 0, 1) := by decide +kernel
theorem dX4_losses_1 : decode cX4_losses 1 = .ok (.iload_n 1, 1) := by decide +kernel
theorem dX4_losses_2 : decode cX4_losses 2 = .ok (.invokevirtual 144, 3) := by decide +kernel
theorem dX4_losses_5 : decode cX4_losses 5 = .ok (.ifCond .eq 17, 3) := by decide +kernel
theorem dX4_losses_8 : decode cX4_losses 8 = .ok (.aload_n 0, 1) := by decide +kernel
theorem dX4_losses_9 : decode cX4_losses 9 = .ok (.bipush 8, 2) := by decide +kernel
theorem dX4_losses_11 : decode cX4_losses 11 = .ok (.iload_n 1, 1) := by decide +kernel
theorem dX4_losses_12 : decode cX4_losses 12 = .ok (.iadd, 1) := by decide +kernel
theorem dX4_losses_13 : decode cX4_losses 13 = .ok (.iload_n 1, 1) := by decide +kernel
theorem dX4_losses_14 : decode cX4_losses 14 = .ok (.bipush 10, 2) := by decide +kernel
theorem dX4_losses_16 : decode cX4_losses 16 = .ok (.invokevirtual 220, 3) := by decide +kernel
theorem dX4_losses_19 : decode cX4_losses 19 = .ok (.goto 4, 3) := by decide +kernel
theorem dX4_losses_22 : decode cX4_losses 22 = .ok (.iconst (-1), 1) := by decide +kernel
theorem dX4_losses_23 : decode cX4_losses 23 = .ok (.ireturn, 1) := by decide +kernel
theorem dX4_worstAt_0 : decode cX4_worstAt 0 = .ok (.iconst 0, 1) := by decide +kernel
theorem dX4_worstAt_1 : decode cX4_worstAt 1 = .ok (.istore_n 3, 1) := by decide +kernel
theorem dX4_worstAt_2 : decode cX4_worstAt 2 = .ok (.iconst 0, 1) := by decide +kernel
theorem dX4_worstAt_3 : decode cX4_worstAt 3 = .ok (.istore 4, 2) := by decide +kernel
theorem dX4_worstAt_5 : decode cX4_worstAt 5 = .ok (.iload 4, 2) := by decide +kernel
theorem dX4_worstAt_7 : decode cX4_worstAt 7 = .ok (.bipush 9, 2) := by decide +kernel
theorem dX4_worstAt_9 : decode cX4_worstAt 9 = .ok (.if_icmp .gt 98, 3) := by decide +kernel
theorem dX4_worstAt_12 : decode cX4_worstAt 12 = .ok (.iconst 0, 1) := by decide +kernel
theorem dX4_worstAt_13 : decode cX4_worstAt 13 = .ok (.istore 5, 2) := by decide +kernel
theorem dX4_worstAt_15 : decode cX4_worstAt 15 = .ok (.iconst 0, 1) := by decide +kernel
theorem dX4_worstAt_16 : decode cX4_worstAt 16 = .ok (.istore 6, 2) := by decide +kernel
theorem dX4_worstAt_18 : decode cX4_worstAt 18 = .ok (.iload 6, 2) := by decide +kernel
theorem dX4_worstAt_20 : decode cX4_worstAt 20 = .ok (.bipush 9, 2) := by decide +kernel
theorem dX4_worstAt_22 : decode cX4_worstAt 22 = .ok (.if_icmp .gt 66, 3) := by decide +kernel
theorem dX4_worstAt_25 : decode cX4_worstAt 25 = .ok (.iload_n 1, 1) := by decide +kernel
theorem dX4_worstAt_26 : decode cX4_worstAt 26 = .ok (.iload 4, 2) := by decide +kernel
theorem dX4_worstAt_28 : decode cX4_worstAt 28 = .ok (.ishr, 1) := by decide +kernel
theorem dX4_worstAt_29 : decode cX4_worstAt 29 = .ok (.iconst 1, 1) := by decide +kernel
theorem dX4_worstAt_30 : decode cX4_worstAt 30 = .ok (.iand, 1) := by decide +kernel
theorem dX4_worstAt_31 : decode cX4_worstAt 31 = .ok (.iconst 1, 1) := by decide +kernel
theorem dX4_worstAt_32 : decode cX4_worstAt 32 = .ok (.if_icmp .ne 56, 3) := by decide +kernel
theorem dX4_worstAt_35 : decode cX4_worstAt 35 = .ok (.iload 5, 2) := by decide +kernel
theorem dX4_worstAt_37 : decode cX4_worstAt 37 = .ok (.iload_n 1, 1) := by decide +kernel
theorem dX4_worstAt_38 : decode cX4_worstAt 38 = .ok (.iload 6, 2) := by decide +kernel
theorem dX4_worstAt_40 : decode cX4_worstAt 40 = .ok (.ishr, 1) := by decide +kernel
theorem dX4_worstAt_41 : decode cX4_worstAt 41 = .ok (.iconst 1, 1) := by decide +kernel
theorem dX4_worstAt_42 : decode cX4_worstAt 42 = .ok (.iand, 1) := by decide +kernel
theorem dX4_worstAt_43 : decode cX4_worstAt 43 = .ok (.iconst 1, 1) := by decide +kernel
theorem dX4_worstAt_44 : decode cX4_worstAt 44 = .ok (.if_icmp .ne 34, 3) := by decide +kernel
theorem dX4_worstAt_47 : decode cX4_worstAt 47 = .ok (.aload_n 0, 1) := by decide +kernel
theorem dX4_worstAt_48 : decode cX4_worstAt 48 = .ok (.getfield 35, 3) := by decide +kernel
theorem dX4_worstAt_51 : decode cX4_worstAt 51 = .ok (.bipush 41, 2) := by decide +kernel
theorem dX4_worstAt_53 : decode cX4_worstAt 53 = .ok (.iload 4, 2) := by decide +kernel
theorem dX4_worstAt_55 : decode cX4_worstAt 55 = .ok (.imul, 1) := by decide +kernel
theorem dX4_worstAt_56 : decode cX4_worstAt 56 = .ok (.iload_n 2, 1) := by decide +kernel
theorem dX4_worstAt_57 : decode cX4_worstAt 57 = .ok (.iadd, 1) := by decide +kernel
theorem dX4_worstAt_58 : decode cX4_worstAt 58 = .ok (.iaload, 1) := by decide +kernel
theorem dX4_worstAt_59 : decode cX4_worstAt 59 = .ok (.aload_n 0, 1) := by decide +kernel
theorem dX4_worstAt_60 : decode cX4_worstAt 60 = .ok (.getfield 35, 3) := by decide +kernel
theorem dX4_worstAt_63 : decode cX4_worstAt 63 = .ok (.bipush 41, 2) := by decide +kernel
theorem dX4_worstAt_65 : decode cX4_worstAt 65 = .ok (.iload 6, 2) := by decide +kernel
theorem dX4_worstAt_67 : decode cX4_worstAt 67 = .ok (.imul, 1) := by decide +kernel
theorem dX4_worstAt_68 : decode cX4_worstAt 68 = .ok (.iload_n 2, 1) := by decide +kernel
theorem dX4_worstAt_69 : decode cX4_worstAt 69 = .ok (.iadd, 1) := by decide +kernel
theorem dX4_worstAt_70 : decode cX4_worstAt 70 = .ok (.iaload, 1) := by decide +kernel
theorem dX4_worstAt_71 : decode cX4_worstAt 71 = .ok (.if_icmp .ne 7, 3) := by decide +kernel
theorem dX4_worstAt_74 : decode cX4_worstAt 74 = .ok (.iconst 1, 1) := by decide +kernel
theorem dX4_worstAt_75 : decode cX4_worstAt 75 = .ok (.goto 4, 3) := by decide +kernel
theorem dX4_worstAt_78 : decode cX4_worstAt 78 = .ok (.iconst 0, 1) := by decide +kernel
theorem dX4_worstAt_79 : decode cX4_worstAt 79 = .ok (.iadd, 1) := by decide +kernel
theorem dX4_worstAt_80 : decode cX4_worstAt 80 = .ok (.istore 5, 2) := by decide +kernel
theorem dX4_worstAt_82 : decode cX4_worstAt 82 = .ok (.iinc 6 1, 3) := by decide +kernel
theorem dX4_worstAt_85 : decode cX4_worstAt 85 = .ok (.goto (-67), 3) := by decide +kernel
theorem dX4_worstAt_88 : decode cX4_worstAt 88 = .ok (.iload 5, 2) := by decide +kernel
theorem dX4_worstAt_90 : decode cX4_worstAt 90 = .ok (.iload_n 3, 1) := by decide +kernel
theorem dX4_worstAt_91 : decode cX4_worstAt 91 = .ok (.if_icmp .le 8, 3) := by decide +kernel
theorem dX4_worstAt_94 : decode cX4_worstAt 94 = .ok (.iload 5, 2) := by decide +kernel
theorem dX4_worstAt_96 : decode cX4_worstAt 96 = .ok (.goto 4, 3) := by decide +kernel
theorem dX4_worstAt_99 : decode cX4_worstAt 99 = .ok (.iload_n 3, 1) := by decide +kernel
theorem dX4_worstAt_100 : decode cX4_worstAt 100 = .ok (.istore_n 3, 1) := by decide +kernel
theorem dX4_worstAt_101 : decode cX4_worstAt 101 = .ok (.iinc 4 1, 3) := by decide +kernel
theorem dX4_worstAt_104 : decode cX4_worstAt 104 = .ok (.goto (-99), 3) := by decide +kernel
theorem dX4_worstAt_107 : decode cX4_worstAt 107 = .ok (.iload_n 3, 1) := by decide +kernel
theorem dX4_worstAt_108 : decode cX4_worstAt 108 = .ok (.ireturn, 1) := by decide +kernel
theorem dX4_ask_0 : decode cX4_ask 0 = .ok (.aload_n 0, 1) := by decide +kernel
theorem dX4_ask_1 : decode cX4_ask 1 = .ok (.iload_n 1, 1) := by decide +kernel
theorem dX4_ask_2 : decode cX4_ask 2 = .ok (.invokevirtual 144, 3) := by decide +kernel
theorem dX4_ask_5 : decode cX4_ask 5 = .ok (.ifCond .eq 13, 3) := by decide +kernel
theorem dX4_ask_8 : decode cX4_ask 8 = .ok (.iload_n 2, 1) := by decide +kernel
theorem dX4_ask_9 : decode cX4_ask 9 = .ok (.i2l, 1) := by decide +kernel
theorem dX4_ask_10 : decode cX4_ask 10 = .ok (.lconst 0, 1) := by decide +kernel
theorem dX4_ask_11 : decode cX4_ask 11 = .ok (.lconst 1, 1) := by decide +kernel
theorem dX4_ask_12 : decode cX4_ask 12 = .ok (.invokestatic 53, 3) := by decide +kernel
theorem dX4_ask_15 : decode cX4_ask 15 = .ok (.ifCond .ne 5, 3) := by decide +kernel
theorem dX4_ask_18 : decode cX4_ask 18 = .ok (.iconst (-1), 1) := by decide +kernel
theorem dX4_ask_19 : decode cX4_ask 19 = .ok (.ireturn, 1) := by decide +kernel
theorem dX4_ask_20 : decode cX4_ask 20 = .ok (.aload_n 0, 1) := by decide +kernel
theorem dX4_ask_21 : decode cX4_ask 21 = .ok (.bipush 8, 2) := by decide +kernel
theorem dX4_ask_23 : decode cX4_ask 23 = .ok (.iload_n 1, 1) := by decide +kernel
theorem dX4_ask_24 : decode cX4_ask 24 = .ok (.iadd, 1) := by decide +kernel
theorem dX4_ask_25 : decode cX4_ask 25 = .ok (.iload_n 1, 1) := by decide +kernel
theorem dX4_ask_26 : decode cX4_ask 26 = .ok (.bipush 10, 2) := by decide +kernel
theorem dX4_ask_28 : decode cX4_ask 28 = .ok (.invokevirtual 220, 3) := by decide +kernel
theorem dX4_ask_31 : decode cX4_ask 31 = .ok (.istore_n 3, 1) := by decide +kernel
theorem dX4_ask_32 : decode cX4_ask 32 = .ok (.iconst 0, 1) := by decide +kernel
theorem dX4_ask_33 : decode cX4_ask 33 = .ok (.istore 4, 2) := by decide +kernel
theorem dX4_ask_35 : decode cX4_ask 35 = .ok (.iconst 0, 1) := by decide +kernel
theorem dX4_ask_36 : decode cX4_ask 36 = .ok (.istore 5, 2) := by decide +kernel
theorem dX4_ask_38 : decode cX4_ask 38 = .ok (.iload 5, 2) := by decide +kernel
theorem dX4_ask_40 : decode cX4_ask 40 = .ok (.bipush 9, 2) := by decide +kernel
theorem dX4_ask_42 : decode cX4_ask 42 = .ok (.if_icmp .gt 20, 3) := by decide +kernel
theorem dX4_ask_45 : decode cX4_ask 45 = .ok (.iload 4, 2) := by decide +kernel
theorem dX4_ask_47 : decode cX4_ask 47 = .ok (.iload_n 3, 1) := by decide +kernel
theorem dX4_ask_48 : decode cX4_ask 48 = .ok (.iload 5, 2) := by decide +kernel
theorem dX4_ask_50 : decode cX4_ask 50 = .ok (.ishr, 1) := by decide +kernel
theorem dX4_ask_51 : decode cX4_ask 51 = .ok (.iconst 1, 1) := by decide +kernel
theorem dX4_ask_52 : decode cX4_ask 52 = .ok (.iand, 1) := by decide +kernel
theorem dX4_ask_53 : decode cX4_ask 53 = .ok (.iadd, 1) := by decide +kernel
theorem dX4_ask_54 : decode cX4_ask 54 = .ok (.istore 4, 2) := by decide +kernel
theorem dX4_ask_56 : decode cX4_ask 56 = .ok (.iinc 5 1, 3) := by decide +kernel
theorem dX4_ask_59 : decode cX4_ask 59 = .ok (.goto (-21), 3) := by decide +kernel
theorem dX4_ask_62 : decode cX4_ask 62 = .ok (.bipush (-4), 2) := by decide +kernel
theorem dX4_ask_64 : decode cX4_ask 64 = .ok (.istore 5, 2) := by decide +kernel
theorem dX4_ask_66 : decode cX4_ask 66 = .ok (.iconst 0, 1) := by decide +kernel
theorem dX4_ask_67 : decode cX4_ask 67 = .ok (.istore 6, 2) := by decide +kernel
theorem dX4_ask_69 : decode cX4_ask 69 = .ok (.iload 6, 2) := by decide +kernel
theorem dX4_ask_71 : decode cX4_ask 71 = .ok (.bipush 40, 2) := by decide +kernel
theorem dX4_ask_73 : decode cX4_ask 73 = .ok (.if_icmp .gt 50, 3) := by decide +kernel
theorem dX4_ask_76 : decode cX4_ask 76 = .ok (.aload_n 0, 1) := by decide +kernel
theorem dX4_ask_77 : decode cX4_ask 77 = .ok (.iload_n 3, 1) := by decide +kernel
theorem dX4_ask_78 : decode cX4_ask 78 = .ok (.iload 6, 2) := by decide +kernel
theorem dX4_ask_80 : decode cX4_ask 80 = .ok (.invokevirtual 224, 3) := by decide +kernel
theorem dX4_ask_83 : decode cX4_ask 83 = .ok (.istore 7, 2) := by decide +kernel
theorem dX4_ask_85 : decode cX4_ask 85 = .ok (.iload 7, 2) := by decide +kernel
theorem dX4_ask_87 : decode cX4_ask 87 = .ok (.iload 4, 2) := by decide +kernel
theorem dX4_ask_89 : decode cX4_ask 89 = .ok (.if_icmp .ge 8, 3) := by decide +kernel
theorem dX4_ask_92 : decode cX4_ask 92 = .ok (.iload 6, 2) := by decide +kernel
theorem dX4_ask_94 : decode cX4_ask 94 = .ok (.goto 5, 3) := by decide +kernel
theorem dX4_ask_97 : decode cX4_ask 97 = .ok (.iload 5, 2) := by decide +kernel
theorem dX4_ask_99 : decode cX4_ask 99 = .ok (.istore 5, 2) := by decide +kernel
theorem dX4_ask_101 : decode cX4_ask 101 = .ok (.iload 7, 2) := by decide +kernel
theorem dX4_ask_103 : decode cX4_ask 103 = .ok (.iload 4, 2) := by decide +kernel
theorem dX4_ask_105 : decode cX4_ask 105 = .ok (.if_icmp .ge 8, 3) := by decide +kernel
theorem dX4_ask_108 : decode cX4_ask 108 = .ok (.iload 7, 2) := by decide +kernel
theorem dX4_ask_110 : decode cX4_ask 110 = .ok (.goto 5, 3) := by decide +kernel
theorem dX4_ask_113 : decode cX4_ask 113 = .ok (.iload 4, 2) := by decide +kernel
theorem dX4_ask_115 : decode cX4_ask 115 = .ok (.istore 4, 2) := by decide +kernel
theorem dX4_ask_117 : decode cX4_ask 117 = .ok (.iinc 6 1, 3) := by decide +kernel
theorem dX4_ask_120 : decode cX4_ask 120 = .ok (.goto (-51), 3) := by decide +kernel
theorem dX4_ask_123 : decode cX4_ask 123 = .ok (.iload 5, 2) := by decide +kernel
theorem dX4_ask_125 : decode cX4_ask 125 = .ok (.bipush (-4), 2) := by decide +kernel
theorem dX4_ask_127 : decode cX4_ask 127 = .ok (.if_icmp .eq 7, 3) := by decide +kernel
theorem dX4_ask_130 : decode cX4_ask 130 = .ok (.iload_n 2, 1) := by decide +kernel
theorem dX4_ask_131 : decode cX4_ask 131 = .ok (.ifCond .ne 8, 3) := by decide +kernel
theorem dX4_ask_134 : decode cX4_ask 134 = .ok (.iload 5, 2) := by decide +kernel
theorem dX4_ask_136 : decode cX4_ask 136 = .ok (.goto 5, 3) := by decide +kernel
theorem dX4_ask_139 : decode cX4_ask 139 = .ok (.iload 4, 2) := by decide +kernel
theorem dX4_ask_141 : decode cX4_ask 141 = .ok (.ireturn, 1) := by decide +kernel
theorem dX4_drift_0 : decode cX4_drift 0 = .ok (.iload_n 2, 1) := by decide +kernel
theorem dX4_drift_1 : decode cX4_drift 1 = .ok (.i2l, 1) := by decide +kernel
theorem dX4_drift_2 : decode cX4_drift 2 = .ok (.lconst 1, 1) := by decide +kernel
theorem dX4_drift_3 : decode cX4_drift 3 = .ok (.ldc2_w 123, 3) := by decide +kernel
theorem dX4_drift_6 : decode cX4_drift 6 = .ok (.invokestatic 53, 3) := by decide +kernel
theorem dX4_drift_9 : decode cX4_drift 9 = .ok (.ifCond .eq 13, 3) := by decide +kernel
theorem dX4_drift_12 : decode cX4_drift 12 = .ok (.iload_n 3, 1) := by decide +kernel
theorem dX4_drift_13 : decode cX4_drift 13 = .ok (.i2l, 1) := by decide +kernel
theorem dX4_drift_14 : decode cX4_drift 14 = .ok (.lconst 0, 1) := by decide +kernel
theorem dX4_drift_15 : decode cX4_drift 15 = .ok (.lconst 1, 1) := by decide +kernel
theorem dX4_drift_16 : decode cX4_drift 16 = .ok (.invokestatic 53, 3) := by decide +kernel
theorem dX4_drift_19 : decode cX4_drift 19 = .ok (.ifCond .ne 5, 3) := by decide +kernel
theorem dX4_drift_22 : decode cX4_drift 22 = .ok (.iconst (-1), 1) := by decide +kernel
theorem dX4_drift_23 : decode cX4_drift 23 = .ok (.ireturn, 1) := by decide +kernel
theorem dX4_drift_24 : decode cX4_drift 24 = .ok (.aload_n 0, 1) := by decide +kernel
theorem dX4_drift_25 : decode cX4_drift 25 = .ok (.getfield 7, 3) := by decide +kernel
theorem dX4_drift_28 : decode cX4_drift 28 = .ok (.bipush 16, 2) := by decide +kernel
theorem dX4_drift_30 : decode cX4_drift 30 = .ok (.iaload, 1) := by decide +kernel
theorem dX4_drift_31 : decode cX4_drift 31 = .ok (.ifCond .ne 6, 3) := by decide +kernel
theorem dX4_drift_34 : decode cX4_drift 34 = .ok (.bipush (-2), 2) := by decide +kernel
theorem dX4_drift_36 : decode cX4_drift 36 = .ok (.ireturn, 1) := by decide +kernel
theorem dX4_drift_37 : decode cX4_drift 37 = .ok (.aload_n 0, 1) := by decide +kernel
theorem dX4_drift_38 : decode cX4_drift 38 = .ok (.iconst 0, 1) := by decide +kernel
theorem dX4_drift_39 : decode cX4_drift 39 = .ok (.sipush 156, 3) := by decide +kernel
theorem dX4_drift_42 : decode cX4_drift 42 = .ok (.invokevirtual 176, 3) := by decide +kernel
theorem dX4_drift_45 : decode cX4_drift 45 = .ok (.iload_n 1, 1) := by decide +kernel
theorem dX4_drift_46 : decode cX4_drift 46 = .ok (.istore 4, 2) := by decide +kernel
theorem dX4_drift_48 : decode cX4_drift 48 = .ok (.iconst 0, 1) := by decide +kernel
theorem dX4_drift_49 : decode cX4_drift 49 = .ok (.istore 5, 2) := by decide +kernel
theorem dX4_drift_51 : decode cX4_drift 51 = .ok (.iload 5, 2) := by decide +kernel
theorem dX4_drift_53 : decode cX4_drift 53 = .ok (.iload_n 2, 1) := by decide +kernel
theorem dX4_drift_54 : decode cX4_drift 54 = .ok (.if_icmp .ge 48, 3) := by decide +kernel
theorem dX4_drift_57 : decode cX4_drift 57 = .ok (.iload 4, 2) := by decide +kernel
theorem dX4_drift_59 : decode cX4_drift 59 = .ok (.ldc 227, 2) := by decide +kernel
theorem dX4_drift_61 : decode cX4_drift 61 = .ok (.imul, 1) := by decide +kernel
theorem dX4_drift_62 : decode cX4_drift 62 = .ok (.sipush 12345, 3) := by decide +kernel
theorem dX4_drift_65 : decode cX4_drift 65 = .ok (.iadd, 1) := by decide +kernel
theorem dX4_drift_66 : decode cX4_drift 66 = .ok (.istore 4, 2) := by decide +kernel
theorem dX4_drift_68 : decode cX4_drift 68 = .ok (.aload_n 0, 1) := by decide +kernel
theorem dX4_drift_69 : decode cX4_drift 69 = .ok (.sipush 156, 3) := by decide +kernel
theorem dX4_drift_72 : decode cX4_drift 72 = .ok (.iload 4, 2) := by decide +kernel
theorem dX4_drift_74 : decode cX4_drift 74 = .ok (.bipush 16, 2) := by decide +kernel
theorem dX4_drift_76 : decode cX4_drift 76 = .ok (.ishr, 1) := by decide +kernel
theorem dX4_drift_77 : decode cX4_drift 77 = .ok (.sipush 32767, 3) := by decide +kernel
theorem dX4_drift_80 : decode cX4_drift 80 = .ok (.iand, 1) := by decide +kernel
theorem dX4_drift_81 : decode cX4_drift 81 = .ok (.sipush 204, 3) := by decide +kernel
theorem dX4_drift_84 : decode cX4_drift 84 = .ok (.irem, 1) := by decide +kernel
theorem dX4_drift_85 : decode cX4_drift 85 = .ok (.iconst 0, 1) := by decide +kernel
theorem dX4_drift_86 : decode cX4_drift 86 = .ok (.invokevirtual 137, 3) := by decide +kernel
theorem dX4_drift_89 : decode cX4_drift 89 = .ok (.aload_n 0, 1) := by decide +kernel
theorem dX4_drift_90 : decode cX4_drift 90 = .ok (.sipush 156, 3) := by decide +kernel
theorem dX4_drift_93 : decode cX4_drift 93 = .ok (.invokevirtual 141, 3) := by decide +kernel
theorem dX4_drift_96 : decode cX4_drift 96 = .ok (.iinc 5 1, 3) := by decide +kernel
theorem dX4_drift_99 : decode cX4_drift 99 = .ok (.goto (-48), 3) := by decide +kernel
theorem dX4_drift_102 : decode cX4_drift 102 = .ok (.iload_n 3, 1) := by decide +kernel
theorem dX4_drift_103 : decode cX4_drift 103 = .ok (.ifCond .ne 22, 3) := by decide +kernel
theorem dX4_drift_106 : decode cX4_drift 106 = .ok (.aload_n 0, 1) := by decide +kernel
theorem dX4_drift_107 : decode cX4_drift 107 = .ok (.getfield 7, 3) := by decide +kernel
theorem dX4_drift_110 : decode cX4_drift 110 = .ok (.sipush 193, 3) := by decide +kernel
theorem dX4_drift_113 : decode cX4_drift 113 = .ok (.iaload, 1) := by decide +kernel
theorem dX4_drift_114 : decode cX4_drift 114 = .ok (.aload_n 0, 1) := by decide +kernel
theorem dX4_drift_115 : decode cX4_drift 115 = .ok (.getfield 7, 3) := by decide +kernel
theorem dX4_drift_118 : decode cX4_drift 118 = .ok (.bipush 37, 2) := by decide +kernel
theorem dX4_drift_120 : decode cX4_drift 120 = .ok (.iaload, 1) := by decide +kernel
theorem dX4_drift_121 : decode cX4_drift 121 = .ok (.isub, 1) := by decide +kernel
theorem dX4_drift_122 : decode cX4_drift 122 = .ok (.goto 10, 3) := by decide +kernel
theorem dX4_drift_125 : decode cX4_drift 125 = .ok (.aload_n 0, 1) := by decide +kernel
theorem dX4_drift_126 : decode cX4_drift 126 = .ok (.sipush 156, 3) := by decide +kernel
theorem dX4_drift_129 : decode cX4_drift 129 = .ok (.invokevirtual 191, 3) := by decide +kernel
theorem dX4_drift_132 : decode cX4_drift 132 = .ok (.ireturn, 1) := by decide +kernel
theorem dX4_keep_0 : decode cX4_keep 0 = .ok (.iload_n 1, 1) := by decide +kernel
theorem dX4_keep_1 : decode cX4_keep 1 = .ok (.i2l, 1) := by decide +kernel
theorem dX4_keep_2 : decode cX4_keep 2 = .ok (.lconst 0, 1) := by decide +kernel
theorem dX4_keep_3 : decode cX4_keep 3 = .ok (.lconst 1, 1) := by decide +kernel
theorem dX4_keep_4 : decode cX4_keep 4 = .ok (.invokestatic 53, 3) := by decide +kernel
theorem dX4_keep_7 : decode cX4_keep 7 = .ok (.ifCond .ne 5, 3) := by decide +kernel
theorem dX4_keep_10 : decode cX4_keep 10 = .ok (.iconst (-1), 1) := by decide +kernel
theorem dX4_keep_11 : decode cX4_keep 11 = .ok (.ireturn, 1) := by decide +kernel
theorem dX4_keep_12 : decode cX4_keep 12 = .ok (.aload_n 0, 1) := by decide +kernel
theorem dX4_keep_13 : decode cX4_keep 13 = .ok (.iconst 0, 1) := by decide +kernel
theorem dX4_keep_14 : decode cX4_keep 14 = .ok (.bipush 39, 2) := by decide +kernel
theorem dX4_keep_16 : decode cX4_keep 16 = .ok (.iload_n 1, 1) := by decide +kernel
theorem dX4_keep_17 : decode cX4_keep 17 = .ok (.iconst 1, 1) := by decide +kernel
theorem dX4_keep_18 : decode cX4_keep 18 = .ok (.iadd, 1) := by decide +kernel
theorem dX4_keep_19 : decode cX4_keep 19 = .ok (.imul, 1) := by decide +kernel
theorem dX4_keep_20 : decode cX4_keep 20 = .ok (.invokevirtual 176, 3) := by decide +kernel
theorem dX4_keep_23 : decode cX4_keep 23 = .ok (.aload_n 0, 1) := by decide +kernel
theorem dX4_keep_24 : decode cX4_keep 24 = .ok (.getfield 38, 3) := by decide +kernel
theorem dX4_keep_27 : decode cX4_keep 27 = .ok (.iload_n 1, 1) := by decide +kernel
theorem dX4_keep_28 : decode cX4_keep 28 = .ok (.baload, 1) := by decide +kernel
theorem dX4_keep_29 : decode cX4_keep 29 = .ok (.ifCond .eq 7, 3) := by decide +kernel
theorem dX4_keep_32 : decode cX4_keep 32 = .ok (.iconst 1, 1) := by decide +kernel
theorem dX4_keep_33 : decode cX4_keep 33 = .ok (.goto 4, 3) := by decide +kernel
theorem dX4_keep_36 : decode cX4_keep 36 = .ok (.iconst 0, 1) := by decide +kernel
theorem dX4_keep_37 : decode cX4_keep 37 = .ok (.istore_n 2, 1) := by decide +kernel
theorem dX4_keep_38 : decode cX4_keep 38 = .ok (.aload_n 0, 1) := by decide +kernel
theorem dX4_keep_39 : decode cX4_keep 39 = .ok (.getfield 38, 3) := by decide +kernel
theorem dX4_keep_42 : decode cX4_keep 42 = .ok (.iload_n 1, 1) := by decide +kernel
theorem dX4_keep_43 : decode cX4_keep 43 = .ok (.iconst 1, 1) := by decide +kernel
theorem dX4_keep_44 : decode cX4_keep 44 = .ok (.bastore, 1) := by decide +kernel
theorem dX4_keep_45 : decode cX4_keep 45 = .ok (.iload_n 2, 1) := by decide +kernel
theorem dX4_keep_46 : decode cX4_keep 46 = .ok (.ireturn, 1) := by decide +kernel
theorem dX4_back_0 : decode cX4_back 0 = .ok (.iload_n 1, 1) := by decide +kernel
theorem dX4_back_1 : decode cX4_back 1 = .ok (.i2l, 1) := by decide +kernel
theorem dX4_back_2 : decode cX4_back 2 = .ok (.lconst 0, 1) := by decide +kernel
theorem dX4_back_3 : decode cX4_back 3 = .ok (.lconst 1, 1) := by decide +kernel
theorem dX4_back_4 : decode cX4_back 4 = .ok (.invokestatic 53, 3) := by decide +kernel
theorem dX4_back_7 : decode cX4_back 7 = .ok (.ifCond .ne 5, 3) := by decide +kernel
theorem dX4_back_10 : decode cX4_back 10 = .ok (.iconst (-1), 1) := by decide +kernel
theorem dX4_back_11 : decode cX4_back 11 = .ok (.ireturn, 1) := by decide +kernel
theorem dX4_back_12 : decode cX4_back 12 = .ok (.aload_n 0, 1) := by decide +kernel
theorem dX4_back_13 : decode cX4_back 13 = .ok (.getfield 38, 3) := by decide +kernel
theorem dX4_back_16 : decode cX4_back 16 = .ok (.iload_n 1, 1) := by decide +kernel
theorem dX4_back_17 : decode cX4_back 17 = .ok (.baload, 1) := by decide +kernel
theorem dX4_back_18 : decode cX4_back 18 = .ok (.ifCond .ne 6, 3) := by decide +kernel
theorem dX4_back_21 : decode cX4_back 21 = .ok (.bipush (-2), 2) := by decide +kernel
theorem dX4_back_23 : decode cX4_back 23 = .ok (.ireturn, 1) := by decide +kernel
theorem dX4_back_24 : decode cX4_back 24 = .ok (.aload_n 0, 1) := by decide +kernel
theorem dX4_back_25 : decode cX4_back 25 = .ok (.bipush 39, 2) := by decide +kernel
theorem dX4_back_27 : decode cX4_back 27 = .ok (.iload_n 1, 1) := by decide +kernel
theorem dX4_back_28 : decode cX4_back 28 = .ok (.iconst 1, 1) := by decide +kernel
theorem dX4_back_29 : decode cX4_back 29 = .ok (.iadd, 1) := by decide +kernel
theorem dX4_back_30 : decode cX4_back 30 = .ok (.imul, 1) := by decide +kernel
theorem dX4_back_31 : decode cX4_back 31 = .ok (.iconst 0, 1) := by decide +kernel
theorem dX4_back_32 : decode cX4_back 32 = .ok (.invokevirtual 176, 3) := by decide +kernel
theorem dX4_back_35 : decode cX4_back 35 = .ok (.aload_n 0, 1) := by decide +kernel
theorem dX4_back_36 : decode cX4_back 36 = .ok (.getfield 7, 3) := by decide +kernel
theorem dX4_back_39 : decode cX4_back 39 = .ok (.bipush 36, 2) := by decide +kernel
theorem dX4_back_41 : decode cX4_back 41 = .ok (.iaload, 1) := by decide +kernel
theorem dX4_back_42 : decode cX4_back 42 = .ok (.ireturn, 1) := by decide +kernel
theorem dX4_sheet_0 : decode cX4_sheet 0 = .ok (.iload_n 1, 1) := by decide +kernel
theorem dX4_sheet_1 : decode cX4_sheet 1 = .ok (.i2l, 1) := by decide +kernel
theorem dX4_sheet_2 : decode cX4_sheet 2 = .ok (.lconst 0, 1) := by decide +kernel
theorem dX4_sheet_3 : decode cX4_sheet 3 = .ok (.ldc2_w 153, 3) := by decide +kernel
theorem dX4_sheet_6 : decode cX4_sheet 6 = .ok (.invokestatic 53, 3) := by decide +kernel
theorem dX4_sheet_9 : decode cX4_sheet 9 = .ok (.ifCond .eq 21, 3) := by decide +kernel
theorem dX4_sheet_12 : decode cX4_sheet 12 = .ok (.iload_n 2, 1) := by decide +kernel
theorem dX4_sheet_13 : decode cX4_sheet 13 = .ok (.i2l, 1) := by decide +kernel
theorem dX4_sheet_14 : decode cX4_sheet 14 = .ok (.lconst 0, 1) := by decide +kernel
theorem dX4_sheet_15 : decode cX4_sheet 15 = .ok (.ldc2_w 228, 3) := by decide +kernel
theorem dX4_sheet_18 : decode cX4_sheet 18 = .ok (.invokestatic 53, 3) := by decide +kernel
theorem dX4_sheet_21 : decode cX4_sheet 21 = .ok (.ifCond .eq 9, 3) := by decide +kernel
theorem dX4_sheet_24 : decode cX4_sheet 24 = .ok (.iload_n 3, 1) := by decide +kernel
theorem dX4_sheet_25 : decode cX4_sheet 25 = .ok (.bipush 40, 2) := by decide +kernel
theorem dX4_sheet_27 : decode cX4_sheet 27 = .ok (.if_icmp .le 5, 3) := by decide +kernel
theorem dX4_sheet_30 : decode cX4_sheet 30 = .ok (.iconst (-1), 1) := by decide +kernel
theorem dX4_sheet_31 : decode cX4_sheet 31 = .ok (.ireturn, 1) := by decide +kernel
theorem dX4_sheet_32 : decode cX4_sheet 32 = .ok (.iload_n 3, 1) := by decide +kernel
theorem dX4_sheet_33 : decode cX4_sheet 33 = .ok (.ifCond .ge 6, 3) := by decide +kernel
theorem dX4_sheet_36 : decode cX4_sheet 36 = .ok (.bipush (-14), 2) := by decide +kernel
theorem dX4_sheet_38 : decode cX4_sheet 38 = .ok (.ireturn, 1) := by decide +kernel
theorem dX4_sheet_39 : decode cX4_sheet 39 = .ok (.aload_n 0, 1) := by decide +kernel
theorem dX4_sheet_40 : decode cX4_sheet 40 = .ok (.getfield 42, 3) := by decide +kernel
theorem dX4_sheet_43 : decode cX4_sheet 43 = .ok (.iload_n 1, 1) := by decide +kernel
theorem dX4_sheet_44 : decode cX4_sheet 44 = .ok (.iload_n 2, 1) := by decide +kernel
theorem dX4_sheet_45 : decode cX4_sheet 45 = .ok (.iastore, 1) := by decide +kernel
theorem dX4_sheet_46 : decode cX4_sheet 46 = .ok (.aload_n 0, 1) := by decide +kernel
theorem dX4_sheet_47 : decode cX4_sheet 47 = .ok (.getfield 45, 3) := by decide +kernel
theorem dX4_sheet_50 : decode cX4_sheet 50 = .ok (.iload_n 1, 1) := by decide +kernel
theorem dX4_sheet_51 : decode cX4_sheet 51 = .ok (.iload_n 3, 1) := by decide +kernel
theorem dX4_sheet_52 : decode cX4_sheet 52 = .ok (.iastore, 1) := by decide +kernel
theorem dX4_sheet_53 : decode cX4_sheet 53 = .ok (.iconst 0, 1) := by decide +kernel
theorem dX4_sheet_54 : decode cX4_sheet 54 = .ok (.istore 4, 2) := by decide +kernel
theorem dX4_sheet_56 : decode cX4_sheet 56 = .ok (.iload 4, 2) := by decide +kernel
theorem dX4_sheet_58 : decode cX4_sheet 58 = .ok (.bipush 40, 2) := by decide +kernel
theorem dX4_sheet_60 : decode cX4_sheet 60 = .ok (.if_icmp .ge 22, 3) := by decide +kernel
theorem dX4_sheet_63 : decode cX4_sheet 63 = .ok (.aload_n 0, 1) := by decide +kernel
theorem dX4_sheet_64 : decode cX4_sheet 64 = .ok (.getfield 48, 3) := by decide +kernel
theorem dX4_sheet_67 : decode cX4_sheet 67 = .ok (.bipush 40, 2) := by decide +kernel
theorem dX4_sheet_69 : decode cX4_sheet 69 = .ok (.iload_n 1, 1) := by decide +kernel
theorem dX4_sheet_70 : decode cX4_sheet 70 = .ok (.imul, 1) := by decide +kernel
theorem dX4_sheet_71 : decode cX4_sheet 71 = .ok (.iload 4, 2) := by decide +kernel
theorem dX4_sheet_73 : decode cX4_sheet 73 = .ok (.iadd, 1) := by decide +kernel
theorem dX4_sheet_74 : decode cX4_sheet 74 = .ok (.iconst 0, 1) := by decide +kernel
theorem dX4_sheet_75 : decode cX4_sheet 75 = .ok (.iastore, 1) := by decide +kernel
theorem dX4_sheet_76 : decode cX4_sheet 76 = .ok (.iinc 4 1, 3) := by decide +kernel
theorem dX4_sheet_79 : decode cX4_sheet 79 = .ok (.goto (-23), 3) := by decide +kernel
theorem dX4_sheet_82 : decode cX4_sheet 82 = .ok (.iconst 1, 1) := by decide +kernel
theorem dX4_sheet_83 : decode cX4_sheet 83 = .ok (.ireturn, 1) := by decide +kernel
theorem dX4_lay_0 : decode cX4_lay 0 = .ok (.iload_n 1, 1) := by decide +kernel
theorem dX4_lay_1 : decode cX4_lay 1 = .ok (.i2l, 1) := by decide +kernel
theorem dX4_lay_2 : decode cX4_lay 2 = .ok (.lconst 0, 1) := by decide +kernel
theorem dX4_lay_3 : decode cX4_lay 3 = .ok (.ldc2_w 153, 3) := by decide +kernel
theorem dX4_lay_6 : decode cX4_lay 6 = .ok (.invokestatic 53, 3) := by decide +kernel
theorem dX4_lay_9 : decode cX4_lay 9 = .ok (.ifCond .ne 5, 3) := by decide +kernel
theorem dX4_lay_12 : decode cX4_lay 12 = .ok (.iconst (-1), 1) := by decide +kernel
theorem dX4_lay_13 : decode cX4_lay 13 = .ok (.ireturn, 1) := by decide +kernel
theorem dX4_lay_14 : decode cX4_lay 14 = .ok (.aload_n 0, 1) := by decide +kernel
theorem dX4_lay_15 : decode cX4_lay 15 = .ok (.getfield 42, 3) := by decide +kernel
theorem dX4_lay_18 : decode cX4_lay 18 = .ok (.iload_n 1, 1) := by decide +kernel
theorem dX4_lay_19 : decode cX4_lay 19 = .ok (.iaload, 1) := by decide +kernel
theorem dX4_lay_20 : decode cX4_lay 20 = .ok (.bipush (-4), 2) := by decide +kernel
theorem dX4_lay_22 : decode cX4_lay 22 = .ok (.if_icmp .ne 6, 3) := by decide +kernel
theorem dX4_lay_25 : decode cX4_lay 25 = .ok (.bipush (-11), 2) := by decide +kernel
theorem dX4_lay_27 : decode cX4_lay 27 = .ok (.ireturn, 1) := by decide +kernel
theorem dX4_lay_28 : decode cX4_lay 28 = .ok (.iload_n 2, 1) := by decide +kernel
theorem dX4_lay_29 : decode cX4_lay 29 = .ok (.i2l, 1) := by decide +kernel
theorem dX4_lay_30 : decode cX4_lay 30 = .ok (.lconst 0, 1) := by decide +kernel
theorem dX4_lay_31 : decode cX4_lay 31 = .ok (.aload_n 0, 1) := by decide +kernel
theorem dX4_lay_32 : decode cX4_lay 32 = .ok (.getfield 45, 3) := by decide +kernel
theorem dX4_lay_35 : decode cX4_lay 35 = .ok (.iload_n 1, 1) := by decide +kernel
theorem dX4_lay_36 : decode cX4_lay 36 = .ok (.iaload, 1) := by decide +kernel
theorem dX4_lay_37 : decode cX4_lay 37 = .ok (.iconst 1, 1) := by decide +kernel
theorem dX4_lay_38 : decode cX4_lay 38 = .ok (.isub, 1) := by decide +kernel
theorem dX4_lay_39 : decode cX4_lay 39 = .ok (.i2l, 1) := by decide +kernel
theorem dX4_lay_40 : decode cX4_lay 40 = .ok (.invokestatic 53, 3) := by decide +kernel
theorem dX4_lay_43 : decode cX4_lay 43 = .ok (.ifCond .ne 6, 3) := by decide +kernel
theorem dX4_lay_46 : decode cX4_lay 46 = .ok (.bipush (-12), 2) := by decide +kernel
theorem dX4_lay_48 : decode cX4_lay 48 = .ok (.ireturn, 1) := by decide +kernel
theorem dX4_lay_49 : decode cX4_lay 49 = .ok (.aload_n 0, 1) := by decide +kernel
theorem dX4_lay_50 : decode cX4_lay 50 = .ok (.getfield 48, 3) := by decide +kernel
theorem dX4_lay_53 : decode cX4_lay 53 = .ok (.bipush 40, 2) := by decide +kernel
theorem dX4_lay_55 : decode cX4_lay 55 = .ok (.iload_n 1, 1) := by decide +kernel
theorem dX4_lay_56 : decode cX4_lay 56 = .ok (.imul, 1) := by decide +kernel
theorem dX4_lay_57 : decode cX4_lay 57 = .ok (.iload_n 2, 1) := by decide +kernel
theorem dX4_lay_58 : decode cX4_lay 58 = .ok (.iadd, 1) := by decide +kernel
theorem dX4_lay_59 : decode cX4_lay 59 = .ok (.aload_n 0, 1) := by decide +kernel
theorem dX4_lay_60 : decode cX4_lay 60 = .ok (.getfield 42, 3) := by decide +kernel
theorem dX4_lay_63 : decode cX4_lay 63 = .ok (.iload_n 1, 1) := by decide +kernel
theorem dX4_lay_64 : decode cX4_lay 64 = .ok (.iaload, 1) := by decide +kernel
theorem dX4_lay_65 : decode cX4_lay 65 = .ok (.ifCond .ne 13, 3) := by decide +kernel
theorem dX4_lay_68 : decode cX4_lay 68 = .ok (.iload_n 3, 1) := by decide +kernel
theorem dX4_lay_69 : decode cX4_lay 69 = .ok (.bipush 24, 2) := by decide +kernel
theorem dX4_lay_71 : decode cX4_lay 71 = .ok (.ishl, 1) := by decide +kernel
theorem dX4_lay_72 : decode cX4_lay 72 = .ok (.bipush 24, 2) := by decide +kernel
theorem dX4_lay_74 : decode cX4_lay 74 = .ok (.ishr, 1) := by decide +kernel
theorem dX4_lay_75 : decode cX4_lay 75 = .ok (.goto 24, 3) := by decide +kernel
theorem dX4_lay_78 : decode cX4_lay 78 = .ok (.aload_n 0, 1) := by decide +kernel
theorem dX4_lay_79 : decode cX4_lay 79 = .ok (.getfield 42, 3) := by decide +kernel
theorem dX4_lay_82 : decode cX4_lay 82 = .ok (.iload_n 1, 1) := by decide +kernel
theorem dX4_lay_83 : decode cX4_lay 83 = .ok (.iaload, 1) := by decide +kernel
theorem dX4_lay_84 : decode cX4_lay 84 = .ok (.iconst 1, 1) := by decide +kernel
theorem dX4_lay_85 : decode cX4_lay 85 = .ok (.if_icmp .ne 13, 3) := by decide +kernel
theorem dX4_lay_88 : decode cX4_lay 88 = .ok (.iload_n 3, 1) := by decide +kernel
theorem dX4_lay_89 : decode cX4_lay 89 = .ok (.bipush 16, 2) := by decide +kernel
theorem dX4_lay_91 : decode cX4_lay 91 = .ok (.ishl, 1) := by decide +kernel
theorem dX4_lay_92 : decode cX4_lay 92 = .ok (.bipush 16, 2) := by decide +kernel
theorem dX4_lay_94 : decode cX4_lay 94 = .ok (.ishr, 1) := by decide +kernel
theorem dX4_lay_95 : decode cX4_lay 95 = .ok (.goto 4, 3) := by decide +kernel
theorem dX4_lay_98 : decode cX4_lay 98 = .ok (.iload_n 3, 1) := by decide +kernel
theorem dX4_lay_99 : decode cX4_lay 99 = .ok (.iastore, 1) := by decide +kernel
theorem dX4_lay_100 : decode cX4_lay 100 = .ok (.iconst 1, 1) := by decide +kernel
theorem dX4_lay_101 : decode cX4_lay 101 = .ok (.ireturn, 1) := by decide +kernel
theorem dX4_read_0 : decode cX4_read 0 = .ok (.iload_n 1, 1) := by decide +kernel
theorem dX4_read_1 : decode cX4_read 1 = .ok (.i2l, 1) := by decide +kernel
theorem dX4_read_2 : decode cX4_read 2 = .ok (.lconst 0, 1) := by decide +kernel
theorem dX4_read_3 : decode cX4_read 3 = .ok (.ldc2_w 153, 3) := by decide +kernel
theorem dX4_read_6 : decode cX4_read 6 = .ok (.invokestatic 53, 3) := by decide +kernel
theorem dX4_read_9 : decode cX4_read 9 = .ok (.ifCond .eq 28, 3) := by decide +kernel
theorem dX4_read_12 : decode cX4_read 12 = .ok (.iload_n 2, 1) := by decide +kernel
theorem dX4_read_13 : decode cX4_read 13 = .ok (.i2l, 1) := by decide +kernel
theorem dX4_read_14 : decode cX4_read 14 = .ok (.lconst 0, 1) := by decide +kernel
theorem dX4_read_15 : decode cX4_read 15 = .ok (.ldc2_w 228, 3) := by decide +kernel
theorem dX4_read_18 : decode cX4_read 18 = .ok (.invokestatic 53, 3) := by decide +kernel
theorem dX4_read_21 : decode cX4_read 21 = .ok (.ifCond .eq 16, 3) := by decide +kernel
theorem dX4_read_24 : decode cX4_read 24 = .ok (.iload 4, 2) := by decide +kernel
theorem dX4_read_26 : decode cX4_read 26 = .ok (.i2l, 1) := by decide +kernel
theorem dX4_read_27 : decode cX4_read 27 = .ok (.lconst 0, 1) := by decide +kernel
theorem dX4_read_28 : decode cX4_read 28 = .ok (.ldc2_w 212, 3) := by decide +kernel
theorem dX4_read_31 : decode cX4_read 31 = .ok (.invokestatic 53, 3) := by decide +kernel
theorem dX4_read_34 : decode cX4_read 34 = .ok (.ifCond .ne 5, 3) := by decide +kernel
theorem dX4_read_37 : decode cX4_read 37 = .ok (.iconst (-1), 1) := by decide +kernel
theorem dX4_read_38 : decode cX4_read 38 = .ok (.ireturn, 1) := by decide +kernel
theorem dX4_read_39 : decode cX4_read 39 = .ok (.aload_n 0, 1) := by decide +kernel
theorem dX4_read_40 : decode cX4_read 40 = .ok (.iconst 0, 1) := by decide +kernel
theorem dX4_read_41 : decode cX4_read 41 = .ok (.bipush 117, 2) := by decide +kernel
theorem dX4_read_43 : decode cX4_read 43 = .ok (.invokevirtual 176, 3) := by decide +kernel
theorem dX4_read_46 : decode cX4_read 46 = .ok (.iconst 0, 1) := by decide +kernel
theorem dX4_read_47 : decode cX4_read 47 = .ok (.istore 5, 2) := by decide +kernel
theorem dX4_read_49 : decode cX4_read 49 = .ok (.iconst 0, 1) := by decide +kernel
theorem dX4_read_50 : decode cX4_read 50 = .ok (.istore 6, 2) := by decide +kernel
theorem dX4_read_52 : decode cX4_read 52 = .ok (.iconst 0, 1) := by decide +kernel
theorem dX4_read_53 : decode cX4_read 53 = .ok (.istore 7, 2) := by decide +kernel
theorem dX4_read_55 : decode cX4_read 55 = .ok (.iload 7, 2) := by decide +kernel
theorem dX4_read_57 : decode cX4_read 57 = .ok (.iload 4, 2) := by decide +kernel
theorem dX4_read_59 : decode cX4_read 59 = .ok (.if_icmp .ge 118, 3) := by decide +kernel
theorem dX4_read_62 : decode cX4_read 62 = .ok (.iload 5, 2) := by decide +kernel
theorem dX4_read_64 : decode cX4_read 64 = .ok (.ifCond .ne 113, 3) := by decide +kernel
theorem dX4_read_67 : decode cX4_read 67 = .ok (.aload_n 0, 1) := by decide +kernel
theorem dX4_read_68 : decode cX4_read 68 = .ok (.getfield 42, 3) := by decide +kernel
theorem dX4_read_71 : decode cX4_read 71 = .ok (.iload_n 1, 1) := by decide +kernel
theorem dX4_read_72 : decode cX4_read 72 = .ok (.iaload, 1) := by decide +kernel
theorem dX4_read_73 : decode cX4_read 73 = .ok (.bipush (-4), 2) := by decide +kernel
theorem dX4_read_75 : decode cX4_read 75 = .ok (.if_icmp .ne 7, 3) := by decide +kernel
theorem dX4_read_78 : decode cX4_read 78 = .ok (.iconst 1, 1) := by decide +kernel
theorem dX4_read_79 : decode cX4_read 79 = .ok (.goto 44, 3) := by decide +kernel
theorem dX4_read_82 : decode cX4_read 82 = .ok (.aload_n 0, 1) := by decide +kernel
theorem dX4_read_83 : decode cX4_read 83 = .ok (.getfield 42, 3) := by decide +kernel
theorem dX4_read_86 : decode cX4_read 86 = .ok (.iload_n 1, 1) := by decide +kernel
theorem dX4_read_87 : decode cX4_read 87 = .ok (.iaload, 1) := by decide +kernel
theorem dX4_read_88 : decode cX4_read 88 = .ok (.iload_n 2, 1) := by decide +kernel
theorem dX4_read_89 : decode cX4_read 89 = .ok (.if_icmp .eq 7, 3) := by decide +kernel
theorem dX4_read_92 : decode cX4_read 92 = .ok (.iconst 3, 1) := by decide +kernel
theorem dX4_read_93 : decode cX4_read 93 = .ok (.goto 30, 3) := by decide +kernel
theorem dX4_read_96 : decode cX4_read 96 = .ok (.iload_n 3, 1) := by decide +kernel
theorem dX4_read_97 : decode cX4_read 97 = .ok (.i2l, 1) := by decide +kernel
theorem dX4_read_98 : decode cX4_read 98 = .ok (.iload 7, 2) := by decide +kernel
theorem dX4_read_100 : decode cX4_read 100 = .ok (.i2l, 1) := by decide +kernel
theorem dX4_read_101 : decode cX4_read 101 = .ok (.ladd, 1) := by decide +kernel
theorem dX4_read_102 : decode cX4_read 102 = .ok (.lconst 0, 1) := by decide +kernel
theorem dX4_read_103 : decode cX4_read 103 = .ok (.aload_n 0, 1) := by decide +kernel
theorem dX4_read_104 : decode cX4_read 104 = .ok (.getfield 45, 3) := by decide +kernel
theorem dX4_read_107 : decode cX4_read 107 = .ok (.iload_n 1, 1) := by decide +kernel
theorem dX4_read_108 : decode cX4_read 108 = .ok (.iaload, 1) := by decide +kernel
theorem dX4_read_109 : decode cX4_read 109 = .ok (.iconst 1, 1) := by decide +kernel
theorem dX4_read_110 : decode cX4_read 110 = .ok (.isub, 1) := by decide +kernel
theorem dX4_read_111 : decode cX4_read 111 = .ok (.i2l, 1) := by decide +kernel
theorem dX4_read_112 : decode cX4_read 112 = .ok (.invokestatic 53, 3) := by decide +kernel
theorem dX4_read_115 : decode cX4_read 115 = .ok (.ifCond .ne 7, 3) := by decide +kernel
theorem dX4_read_118 : decode cX4_read 118 = .ok (.iconst 2, 1) := by decide +kernel
theorem dX4_read_119 : decode cX4_read 119 = .ok (.goto 4, 3) := by decide +kernel
theorem dX4_read_122 : decode cX4_read 122 = .ok (.iconst 0, 1) := by decide +kernel
theorem dX4_read_123 : decode cX4_read 123 = .ok (.istore 5, 2) := by decide +kernel
theorem dX4_read_125 : decode cX4_read 125 = .ok (.iload 5, 2) := by decide +kernel
theorem dX4_read_127 : decode cX4_read 127 = .ok (.ifCond .ne 44, 3) := by decide +kernel
theorem dX4_read_130 : decode cX4_read 130 = .ok (.bipush 40, 2) := by decide +kernel
theorem dX4_read_132 : decode cX4_read 132 = .ok (.iload_n 1, 1) := by decide +kernel
theorem dX4_read_133 : decode cX4_read 133 = .ok (.imul, 1) := by decide +kernel
theorem dX4_read_134 : decode cX4_read 134 = .ok (.iload_n 3, 1) := by decide +kernel
theorem dX4_read_135 : decode cX4_read 135 = .ok (.iadd, 1) := by decide +kernel
theorem dX4_read_136 : decode cX4_read 136 = .ok (.iload 7, 2) := by decide +kernel
theorem dX4_read_138 : decode cX4_read 138 = .ok (.iadd, 1) := by decide +kernel
theorem dX4_read_139 : decode cX4_read 139 = .ok (.istore 8, 2) := by decide +kernel
theorem dX4_read_141 : decode cX4_read 141 = .ok (.aload_n 0, 1) := by decide +kernel
theorem dX4_read_142 : decode cX4_read 142 = .ok (.aload_n 0, 1) := by decide +kernel
theorem dX4_read_143 : decode cX4_read 143 = .ok (.getfield 48, 3) := by decide +kernel
theorem dX4_read_146 : decode cX4_read 146 = .ok (.iload 8, 2) := by decide +kernel
theorem dX4_read_148 : decode cX4_read 148 = .ok (.iaload, 1) := by decide +kernel
theorem dX4_read_149 : decode cX4_read 149 = .ok (.invokevirtual 167, 3) := by decide +kernel
theorem dX4_read_152 : decode cX4_read 152 = .ok (.ifCond .ge 16, 3) := by decide +kernel
theorem dX4_read_155 : decode cX4_read 155 = .ok (.aload_n 0, 1) := by decide +kernel
theorem dX4_read_156 : decode cX4_read 156 = .ok (.bipush 117, 2) := by decide +kernel
theorem dX4_read_158 : decode cX4_read 158 = .ok (.iconst 0, 1) := by decide +kernel
theorem dX4_read_159 : decode cX4_read 159 = .ok (.invokevirtual 176, 3) := by decide +kernel
theorem dX4_read_162 : decode cX4_read 162 = .ok (.bipush (-20), 2) := by decide +kernel
theorem dX4_read_164 : decode cX4_read 164 = .ok (.iload 6, 2) := by decide +kernel
theorem dX4_read_166 : decode cX4_read 166 = .ok (.isub, 1) := by decide +kernel
theorem dX4_read_167 : decode cX4_read 167 = .ok (.ireturn, 1) := by decide +kernel
theorem dX4_read_168 : decode cX4_read 168 = .ok (.iinc 6 1, 3) := by decide +kernel
theorem dX4_read_171 : decode cX4_read 171 = .ok (.iinc 7 1, 3) := by decide +kernel
theorem dX4_read_174 : decode cX4_read 174 = .ok (.goto (-119), 3) := by decide +kernel
theorem dX4_read_177 : decode cX4_read 177 = .ok (.aload_n 0, 1) := by decide +kernel
theorem dX4_read_178 : decode cX4_read 178 = .ok (.iload 5, 2) := by decide +kernel
theorem dX4_read_180 : decode cX4_read 180 = .ok (.putfield 230, 3) := by decide +kernel
theorem dX4_read_183 : decode cX4_read 183 = .ok (.iload 6, 2) := by decide +kernel
theorem dX4_read_185 : decode cX4_read 185 = .ok (.ireturn, 1) := by decide +kernel
theorem dX4_torn_0 : decode cX4_torn 0 = .ok (.aload_n 0, 1) := by decide +kernel
theorem dX4_torn_1 : decode cX4_torn 1 = .ok (.getfield 230, 3) := by decide +kernel
theorem dX4_torn_4 : decode cX4_torn 4 = .ok (.ireturn, 1) := by decide +kernel
theorem dX4_count_0 : decode cX4_count 0 = .ok (.iconst 0, 1) := by decide +kernel
theorem dX4_count_1 : decode cX4_count 1 = .ok (.istore_n 2, 1) := by decide +kernel
theorem dX4_count_2 : decode cX4_count 2 = .ok (.iconst 0, 1) := by decide +kernel
theorem dX4_count_3 : decode cX4_count 3 = .ok (.istore_n 3, 1) := by decide +kernel
theorem dX4_count_4 : decode cX4_count 4 = .ok (.iconst 0, 1) := by decide +kernel
theorem dX4_count_5 : decode cX4_count 5 = .ok (.istore 4, 2) := by decide +kernel
theorem dX4_count_7 : decode cX4_count 7 = .ok (.iload 4, 2) := by decide +kernel
theorem dX4_count_9 : decode cX4_count 9 = .ok (.aload_n 0, 1) := by decide +kernel
theorem dX4_count_10 : decode cX4_count 10 = .ok (.getfield 7, 3) := by decide +kernel
theorem dX4_count_13 : decode cX4_count 13 = .ok (.bipush 16, 2) := by decide +kernel
theorem dX4_count_15 : decode cX4_count 15 = .ok (.iaload, 1) := by decide +kernel
theorem dX4_count_16 : decode cX4_count 16 = .ok (.if_icmp .ge 34, 3) := by decide +kernel
theorem dX4_count_19 : decode cX4_count 19 = .ok (.iload_n 2, 1) := by decide +kernel
theorem dX4_count_20 : decode cX4_count 20 = .ok (.aload_n 0, 1) := by decide +kernel
theorem dX4_count_21 : decode cX4_count 21 = .ok (.getfield 7, 3) := by decide +kernel
theorem dX4_count_24 : decode cX4_count 24 = .ok (.iconst 4, 1) := by decide +kernel
theorem dX4_count_25 : decode cX4_count 25 = .ok (.iload 4, 2) := by decide +kernel
theorem dX4_count_27 : decode cX4_count 27 = .ok (.iadd, 1) := by decide +kernel
theorem dX4_count_28 : decode cX4_count 28 = .ok (.iaload, 1) := by decide +kernel
theorem dX4_count_29 : decode cX4_count 29 = .ok (.iadd, 1) := by decide +kernel
theorem dX4_count_30 : decode cX4_count 30 = .ok (.istore_n 2, 1) := by decide +kernel
theorem dX4_count_31 : decode cX4_count 31 = .ok (.iload_n 3, 1) := by decide +kernel
theorem dX4_count_32 : decode cX4_count 32 = .ok (.aload_n 0, 1) := by decide +kernel
theorem dX4_count_33 : decode cX4_count 33 = .ok (.getfield 7, 3) := by decide +kernel
theorem dX4_count_36 : decode cX4_count 36 = .ok (.bipush 8, 2) := by decide +kernel
theorem dX4_count_38 : decode cX4_count 38 = .ok (.iload 4, 2) := by decide +kernel
theorem dX4_count_40 : decode cX4_count 40 = .ok (.iadd, 1) := by decide +kernel
theorem dX4_count_41 : decode cX4_count 41 = .ok (.iaload, 1) := by decide +kernel
theorem dX4_count_42 : decode cX4_count 42 = .ok (.iadd, 1) := by decide +kernel
theorem dX4_count_43 : decode cX4_count 43 = .ok (.istore_n 3, 1) := by decide +kernel
theorem dX4_count_44 : decode cX4_count 44 = .ok (.iinc 4 1, 3) := by decide +kernel
theorem dX4_count_47 : decode cX4_count 47 = .ok (.goto (-40), 3) := by decide +kernel
theorem dX4_count_50 : decode cX4_count 50 = .ok (.iload_n 1, 1) := by decide +kernel
theorem dX4_count_51 : decode cX4_count 51 = .ok (.tableswitch 104 0 5 #[37, 42, 72, 77, 100, 102], 37) := by decide +kernel
theorem dX4_count_88 : decode cX4_count 88 = .ok (.aload_n 0, 1) := by decide +kernel
theorem dX4_count_89 : decode cX4_count 89 = .ok (.getfield 120, 3) := by decide +kernel
theorem dX4_count_92 : decode cX4_count 92 = .ok (.ireturn, 1) := by decide +kernel
theorem dX4_count_93 : decode cX4_count 93 = .ok (.aload_n 0, 1) := by decide +kernel
theorem dX4_count_94 : decode cX4_count 94 = .ok (.getfield 38, 3) := by decide +kernel
theorem dX4_count_97 : decode cX4_count 97 = .ok (.iconst 0, 1) := by decide +kernel
theorem dX4_count_98 : decode cX4_count 98 = .ok (.baload, 1) := by decide +kernel
theorem dX4_count_99 : decode cX4_count 99 = .ok (.ifCond .eq 7, 3) := by decide +kernel
theorem dX4_count_102 : decode cX4_count 102 = .ok (.iconst 1, 1) := by decide +kernel
theorem dX4_count_103 : decode cX4_count 103 = .ok (.goto 4, 3) := by decide +kernel
theorem dX4_count_106 : decode cX4_count 106 = .ok (.iconst 0, 1) := by decide +kernel
theorem dX4_count_107 : decode cX4_count 107 = .ok (.aload_n 0, 1) := by decide +kernel
theorem dX4_count_108 : decode cX4_count 108 = .ok (.getfield 38, 3) := by decide +kernel
theorem dX4_count_111 : decode cX4_count 111 = .ok (.iconst 1, 1) := by decide +kernel
theorem dX4_count_112 : decode cX4_count 112 = .ok (.baload, 1) := by decide +kernel
theorem dX4_count_113 : decode cX4_count 113 = .ok (.ifCond .eq 7, 3) := by decide +kernel
theorem dX4_count_116 : decode cX4_count 116 = .ok (.iconst 1, 1) := by decide +kernel
theorem dX4_count_117 : decode cX4_count 117 = .ok (.goto 4, 3) := by decide +kernel
theorem dX4_count_120 : decode cX4_count 120 = .ok (.iconst 0, 1) := by decide +kernel
theorem dX4_count_121 : decode cX4_count 121 = .ok (.iadd, 1) := by decide +kernel
theorem dX4_count_122 : decode cX4_count 122 = .ok (.ireturn, 1) := by decide +kernel
theorem dX4_count_123 : decode cX4_count 123 = .ok (.aload_n 0, 1) := by decide +kernel
theorem dX4_count_124 : decode cX4_count 124 = .ok (.getfield 57, 3) := by decide +kernel
theorem dX4_count_127 : decode cX4_count 127 = .ok (.ireturn, 1) := by decide +kernel
theorem dX4_count_128 : decode cX4_count 128 = .ok (.aload_n 0, 1) := by decide +kernel
theorem dX4_count_129 : decode cX4_count 129 = .ok (.getfield 42, 3) := by decide +kernel
theorem dX4_count_132 : decode cX4_count 132 = .ok (.iconst 0, 1) := by decide +kernel
theorem dX4_count_133 : decode cX4_count 133 = .ok (.iaload, 1) := by decide +kernel
theorem dX4_count_134 : decode cX4_count 134 = .ok (.bipush (-4), 2) := by decide +kernel
theorem dX4_count_136 : decode cX4_count 136 = .ok (.if_icmp .ne 8, 3) := by decide +kernel
theorem dX4_count_139 : decode cX4_count 139 = .ok (.bipush (-4), 2) := by decide +kernel
theorem dX4_count_141 : decode cX4_count 141 = .ok (.goto 9, 3) := by decide +kernel
theorem dX4_count_144 : decode cX4_count 144 = .ok (.aload_n 0, 1) := by decide +kernel
theorem dX4_count_145 : decode cX4_count 145 = .ok (.getfield 45, 3) := by decide +kernel
theorem dX4_count_148 : decode cX4_count 148 = .ok (.iconst 0, 1) := by decide +kernel
theorem dX4_count_149 : decode cX4_count 149 = .ok (.iaload, 1) := by decide +kernel
theorem dX4_count_150 : decode cX4_count 150 = .ok (.ireturn, 1) := by decide +kernel
theorem dX4_count_151 : decode cX4_count 151 = .ok (.iload_n 2, 1) := by decide +kernel
theorem dX4_count_152 : decode cX4_count 152 = .ok (.ireturn, 1) := by decide +kernel
theorem dX4_count_153 : decode cX4_count 153 = .ok (.iload_n 3, 1) := by decide +kernel
theorem dX4_count_154 : decode cX4_count 154 = .ok (.ireturn, 1) := by decide +kernel
theorem dX4_count_155 : decode cX4_count 155 = .ok (.iconst (-1), 1) := by decide +kernel
theorem dX4_count_156 : decode cX4_count 156 = .ok (.ireturn, 1) := by decide +kernel
theorem dJ6_bitCount_0f7a4_0 : decode cJ6_bitCount_0f7a4 0 = .ok (.iload_n 0, 1) := by decide +kernel
theorem dJ6_bitCount_0f7a4_1 : decode cJ6_bitCount_0f7a4 1 = .ok (.iload_n 0, 1) := by decide +kernel
theorem dJ6_bitCount_0f7a4_2 : decode cJ6_bitCount_0f7a4 2 = .ok (.iconst 1, 1) := by decide +kernel
theorem dJ6_bitCount_0f7a4_3 : decode cJ6_bitCount_0f7a4 3 = .ok (.iushr, 1) := by decide +kernel
theorem dJ6_bitCount_0f7a4_4 : decode cJ6_bitCount_0f7a4 4 = .ok (.ldc_w 265, 3) := by decide +kernel
theorem dJ6_bitCount_0f7a4_7 : decode cJ6_bitCount_0f7a4 7 = .ok (.iand, 1) := by decide +kernel
theorem dJ6_bitCount_0f7a4_8 : decode cJ6_bitCount_0f7a4 8 = .ok (.isub, 1) := by decide +kernel
theorem dJ6_bitCount_0f7a4_9 : decode cJ6_bitCount_0f7a4 9 = .ok (.istore_n 0, 1) := by decide +kernel
theorem dJ6_bitCount_0f7a4_10 : decode cJ6_bitCount_0f7a4 10 = .ok (.iload_n 0, 1) := by decide +kernel
theorem dJ6_bitCount_0f7a4_11 : decode cJ6_bitCount_0f7a4 11 = .ok (.ldc_w 266, 3) := by decide +kernel
theorem dJ6_bitCount_0f7a4_14 : decode cJ6_bitCount_0f7a4 14 = .ok (.iand, 1) := by decide +kernel
theorem dJ6_bitCount_0f7a4_15 : decode cJ6_bitCount_0f7a4 15 = .ok (.iload_n 0, 1) := by decide +kernel
theorem dJ6_bitCount_0f7a4_16 : decode cJ6_bitCount_0f7a4 16 = .ok (.iconst 2, 1) := by decide +kernel
theorem dJ6_bitCount_0f7a4_17 : decode cJ6_bitCount_0f7a4 17 = .ok (.iushr, 1) := by decide +kernel
theorem dJ6_bitCount_0f7a4_18 : decode cJ6_bitCount_0f7a4 18 = .ok (.ldc_w 266, 3) := by decide +kernel
theorem dJ6_bitCount_0f7a4_21 : decode cJ6_bitCount_0f7a4 21 = .ok (.iand, 1) := by decide +kernel
theorem dJ6_bitCount_0f7a4_22 : decode cJ6_bitCount_0f7a4 22 = .ok (.iadd, 1) := by decide +kernel
theorem dJ6_bitCount_0f7a4_23 : decode cJ6_bitCount_0f7a4 23 = .ok (.istore_n 0, 1) := by decide +kernel
theorem dJ6_bitCount_0f7a4_24 : decode cJ6_bitCount_0f7a4 24 = .ok (.iload_n 0, 1) := by decide +kernel
theorem dJ6_bitCount_0f7a4_25 : decode cJ6_bitCount_0f7a4 25 = .ok (.iload_n 0, 1) := by decide +kernel
theorem dJ6_bitCount_0f7a4_26 : decode cJ6_bitCount_0f7a4 26 = .ok (.iconst 4, 1) := by decide +kernel
theorem dJ6_bitCount_0f7a4_27 : decode cJ6_bitCount_0f7a4 27 = .ok (.iushr, 1) := by decide +kernel
theorem dJ6_bitCount_0f7a4_28 : decode cJ6_bitCount_0f7a4 28 = .ok (.iadd, 1) := by decide +kernel
theorem dJ6_bitCount_0f7a4_29 : decode cJ6_bitCount_0f7a4 29 = .ok (.ldc_w 267, 3) := by decide +kernel
theorem dJ6_bitCount_0f7a4_32 : decode cJ6_bitCount_0f7a4 32 = .ok (.iand, 1) := by decide +kernel
theorem dJ6_bitCount_0f7a4_33 : decode cJ6_bitCount_0f7a4 33 = .ok (.istore_n 0, 1) := by decide +kernel
theorem dJ6_bitCount_0f7a4_34 : decode cJ6_bitCount_0f7a4 34 = .ok (.iload_n 0, 1) := by decide +kernel
theorem dJ6_bitCount_0f7a4_35 : decode cJ6_bitCount_0f7a4 35 = .ok (.iload_n 0, 1) := by decide +kernel
theorem dJ6_bitCount_0f7a4_36 : decode cJ6_bitCount_0f7a4 36 = .ok (.bipush 8, 2) := by decide +kernel
theorem dJ6_bitCount_0f7a4_38 : decode cJ6_bitCount_0f7a4 38 = .ok (.iushr, 1) := by decide +kernel
theorem dJ6_bitCount_0f7a4_39 : decode cJ6_bitCount_0f7a4 39 = .ok (.iadd, 1) := by decide +kernel
theorem dJ6_bitCount_0f7a4_40 : decode cJ6_bitCount_0f7a4 40 = .ok (.istore_n 0, 1) := by decide +kernel
theorem dJ6_bitCount_0f7a4_41 : decode cJ6_bitCount_0f7a4 41 = .ok (.iload_n 0, 1) := by decide +kernel
theorem dJ6_bitCount_0f7a4_42 : decode cJ6_bitCount_0f7a4 42 = .ok (.iload_n 0, 1) := by decide +kernel
theorem dJ6_bitCount_0f7a4_43 : decode cJ6_bitCount_0f7a4 43 = .ok (.bipush 16, 2) := by decide +kernel
theorem dJ6_bitCount_0f7a4_45 : decode cJ6_bitCount_0f7a4 45 = .ok (.iushr, 1) := by decide +kernel
theorem dJ6_bitCount_0f7a4_46 : decode cJ6_bitCount_0f7a4 46 = .ok (.iadd, 1) := by decide +kernel
theorem dJ6_bitCount_0f7a4_47 : decode cJ6_bitCount_0f7a4 47 = .ok (.istore_n 0, 1) := by decide +kernel
theorem dJ6_bitCount_0f7a4_48 : decode cJ6_bitCount_0f7a4 48 = .ok (.iload_n 0, 1) := by decide +kernel
theorem dJ6_bitCount_0f7a4_49 : decode cJ6_bitCount_0f7a4 49 = .ok (.bipush 63, 2) := by decide +kernel
theorem dJ6_bitCount_0f7a4_51 : decode cJ6_bitCount_0f7a4 51 = .ok (.iand, 1) := by decide +kernel
theorem dJ6_bitCount_0f7a4_52 : decode cJ6_bitCount_0f7a4 52 = .ok (.ireturn, 1) := by decide +kernel
theorem dJ9_max_7cf53_0 : decode cJ9_max_7cf53 0 = .ok (.iload_n 0, 1) := by decide +kernel
theorem dJ9_max_7cf53_1 : decode cJ9_max_7cf53 1 = .ok (.iload_n 1, 1) := by decide +kernel
theorem dJ9_max_7cf53_2 : decode cJ9_max_7cf53 2 = .ok (.if_icmp .lt 7, 3) := by decide +kernel
theorem dJ9_max_7cf53_5 : decode cJ9_max_7cf53 5 = .ok (.iload_n 0, 1) := by decide +kernel
theorem dJ9_max_7cf53_6 : decode cJ9_max_7cf53 6 = .ok (.goto 4, 3) := by decide +kernel
theorem dJ9_max_7cf53_9 : decode cJ9_max_7cf53 9 = .ok (.iload_n 1, 1) := by decide +kernel
theorem dJ9_max_7cf53_10 : decode cJ9_max_7cf53 10 = .ok (.ireturn, 1) := by decide +kernel
theorem dJ9_min_7cf53_0 : decode cJ9_min_7cf53 0 = .ok (.iload_n 0, 1) := by decide +kernel
theorem dJ9_min_7cf53_1 : decode cJ9_min_7cf53 1 = .ok (.iload_n 1, 1) := by decide +kernel
theorem dJ9_min_7cf53_2 : decode cJ9_min_7cf53 2 = .ok (.if_icmp .gt 7, 3) := by decide +kernel
theorem dJ9_min_7cf53_5 : decode cJ9_min_7cf53 5 = .ok (.iload_n 0, 1) := by decide +kernel
theorem dJ9_min_7cf53_6 : decode cJ9_min_7cf53 6 = .ok (.goto 4, 3) := by decide +kernel
theorem dJ9_min_7cf53_9 : decode cJ9_min_7cf53 9 = .ok (.iload_n 1, 1) := by decide +kernel
theorem dJ9_min_7cf53_10 : decode cJ9_min_7cf53 10 = .ok (.ireturn, 1) := by decide +kernel
theorem dJ0_length_8abf5_0 : decode cJ0_length_8abf5 0 = .ok (.aload_n 0, 1) := by decide +kernel
theorem dJ0_length_8abf5_1 : decode cJ0_length_8abf5 1 = .ok (.getfield 9, 3) := by decide +kernel
theorem dJ0_length_8abf5_4 : decode cJ0_length_8abf5 4 = .ok (.arraylength, 1) := by decide +kernel
theorem dJ0_length_8abf5_5 : decode cJ0_length_8abf5 5 = .ok (.aload_n 0, 1) := by decide +kernel
theorem dJ0_length_8abf5_6 : decode cJ0_length_8abf5 6 = .ok (.invokevirtual 335, 3) := by decide +kernel
theorem dJ0_length_8abf5_9 : decode cJ0_length_8abf5 9 = .ok (.ishr, 1) := by decide +kernel
theorem dJ0_length_8abf5_10 : decode cJ0_length_8abf5 10 = .ok (.ireturn, 1) := by decide +kernel
theorem dJ0_charAt_5068e_0 : decode cJ0_charAt_5068e 0 = .ok (.aload_n 0, 1) := by decide +kernel
theorem dJ0_charAt_5068e_1 : decode cJ0_charAt_5068e 1 = .ok (.invokevirtual 492, 3) := by decide +kernel
theorem dJ0_charAt_5068e_4 : decode cJ0_charAt_5068e 4 = .ok (.ifCond .eq 12, 3) := by decide +kernel
theorem dJ0_charAt_5068e_7 : decode cJ0_charAt_5068e 7 = .ok (.aload_n 0, 1) := by decide +kernel
theorem dJ0_charAt_5068e_8 : decode cJ0_charAt_5068e 8 = .ok (.getfield 9, 3) := by decide +kernel
theorem dJ0_charAt_5068e_11 : decode cJ0_charAt_5068e 11 = .ok (.iload_n 1, 1) := by decide +kernel
theorem dJ0_charAt_5068e_12 : decode cJ0_charAt_5068e 12 = .ok (.invokestatic 495, 3) := by decide +kernel
theorem dJ0_charAt_5068e_15 : decode cJ0_charAt_5068e 15 = .ok (.ireturn, 1) := by decide +kernel
theorem dJ0_charAt_5068e_16 : decode cJ0_charAt_5068e 16 = .ok (.aload_n 0, 1) := by decide +kernel
theorem dJ0_charAt_5068e_17 : decode cJ0_charAt_5068e 17 = .ok (.getfield 9, 3) := by decide +kernel
theorem dJ0_charAt_5068e_20 : decode cJ0_charAt_5068e 20 = .ok (.iload_n 1, 1) := by decide +kernel
theorem dJ0_charAt_5068e_21 : decode cJ0_charAt_5068e 21 = .ok (.invokestatic 498, 3) := by decide +kernel
theorem dJ0_charAt_5068e_24 : decode cJ0_charAt_5068e 24 = .ok (.ireturn, 1) := by decide +kernel
theorem dJ0_coder_7d493_0 : decode cJ0_coder_7d493 0 = .ok (.getstatic 38, 3) := by decide +kernel
theorem dJ0_coder_7d493_3 : decode cJ0_coder_7d493 3 = .ok (.ifCond .eq 10, 3) := by decide +kernel
theorem dJ0_coder_7d493_6 : decode cJ0_coder_7d493 6 = .ok (.aload_n 0, 1) := by decide +kernel
theorem dJ0_coder_7d493_7 : decode cJ0_coder_7d493 7 = .ok (.getfield 15, 3) := by decide +kernel
theorem dJ0_coder_7d493_10 : decode cJ0_coder_7d493 10 = .ok (.goto 4, 3) := by decide +kernel
theorem dJ0_coder_7d493_13 : decode cJ0_coder_7d493 13 = .ok (.iconst 1, 1) := by decide +kernel
theorem dJ0_coder_7d493_14 : decode cJ0_coder_7d493 14 = .ok (.ireturn, 1) := by decide +kernel
theorem dJ0_isLatin1_aae02_0 : decode cJ0_isLatin1_aae02 0 = .ok (.getstatic 38, 3) := by decide +kernel
theorem dJ0_isLatin1_aae02_3 : decode cJ0_isLatin1_aae02 3 = .ok (.ifCond .eq 14, 3) := by decide +kernel
theorem dJ0_isLatin1_aae02_6 : decode cJ0_isLatin1_aae02 6 = .ok (.aload_n 0, 1) := by decide +kernel
theorem dJ0_isLatin1_aae02_7 : decode cJ0_isLatin1_aae02 7 = .ok (.getfield 15, 3) := by decide +kernel
theorem dJ0_isLatin1_aae02_10 : decode cJ0_isLatin1_aae02 10 = .ok (.ifCond .ne 7, 3) := by decide +kernel
theorem dJ0_isLatin1_aae02_13 : decode cJ0_isLatin1_aae02 13 = .ok (.iconst 1, 1) := by decide +kernel
theorem dJ0_isLatin1_aae02_14 : decode cJ0_isLatin1_aae02 14 = .ok (.goto 4, 3) := by decide +kernel
theorem dJ0_isLatin1_aae02_17 : decode cJ0_isLatin1_aae02 17 = .ok (.iconst 0, 1) := by decide +kernel
theorem dJ0_isLatin1_aae02_18 : decode cJ0_isLatin1_aae02 18 = .ok (.ireturn, 1) := by decide +kernel
theorem dJ0_checkIndex_df160_0 : decode cJ0_checkIndex_df160 0 = .ok (.iload_n 0, 1) := by decide +kernel
theorem dJ0_checkIndex_df160_1 : decode cJ0_checkIndex_df160 1 = .ok (.iload_n 1, 1) := by decide +kernel
theorem dJ0_checkIndex_df160_2 : decode cJ0_checkIndex_df160 2 = .ok (.getstatic 1053, 3) := by decide +kernel
theorem dJ0_checkIndex_df160_5 : decode cJ0_checkIndex_df160 5 = .ok (.invokestatic 1059, 3) := by decide +kernel
theorem dJ0_checkIndex_df160_8 : decode cJ0_checkIndex_df160 8 = .ok (.pop, 1) := by decide +kernel
theorem dJ0_checkIndex_df160_9 : decode cJ0_checkIndex_df160 9 = .ok (.return_, 1) := by decide +kernel
theorem dJ1_charAt_3b067_0 : decode cJ1_charAt_3b067 0 = .ok (.iload_n 1, 1) := by decide +kernel
theorem dJ1_charAt_3b067_1 : decode cJ1_charAt_3b067 1 = .ok (.aload_n 0, 1) := by decide +kernel
theorem dJ1_charAt_3b067_2 : decode cJ1_charAt_3b067 2 = .ok (.arraylength, 1) := by decide +kernel
theorem dJ1_charAt_3b067_3 : decode cJ1_charAt_3b067 3 = .ok (.invokestatic 9, 3) := by decide +kernel
theorem dJ1_charAt_3b067_6 : decode cJ1_charAt_3b067 6 = .ok (.aload_n 0, 1) := by decide +kernel
theorem dJ1_charAt_3b067_7 : decode cJ1_charAt_3b067 7 = .ok (.iload_n 1, 1) := by decide +kernel
theorem dJ1_charAt_3b067_8 : decode cJ1_charAt_3b067 8 = .ok (.baload, 1) := by decide +kernel
theorem dJ1_charAt_3b067_9 : decode cJ1_charAt_3b067 9 = .ok (.sipush 255, 3) := by decide +kernel
theorem dJ1_charAt_3b067_12 : decode cJ1_charAt_3b067 12 = .ok (.iand, 1) := by decide +kernel
theorem dJ1_charAt_3b067_13 : decode cJ1_charAt_3b067 13 = .ok (.i2c, 1) := by decide +kernel
theorem dJ1_charAt_3b067_14 : decode cJ1_charAt_3b067 14 = .ok (.ireturn, 1) := by decide +kernel
theorem dJ2_getChar_3b067_0 : decode cJ2_getChar_3b067 0 = .ok (.getstatic 44, 3) := by decide +kernel
theorem dJ2_getChar_3b067_3 : decode cJ2_getChar_3b067 3 = .ok (.ifCond .ne 25, 3) := by decide +kernel
theorem dJ2_getChar_3b067_6 : decode cJ2_getChar_3b067 6 = .ok (.iload_n 1, 1) := by decide +kernel
theorem dJ2_getChar_3b067_7 : decode cJ2_getChar_3b067 7 = .ok (.ifCond .lt 11, 3) := by decide +kernel
theorem dJ2_getChar_3b067_10 : decode cJ2_getChar_3b067 10 = .ok (.iload_n 1, 1) := by decide +kernel
theorem dJ2_getChar_3b067_11 : decode cJ2_getChar_3b067 11 = .ok (.aload_n 0, 1) := by decide +kernel
theorem dJ2_getChar_3b067_12 : decode cJ2_getChar_3b067 12 = .ok (.invokestatic 48, 3) := by decide +kernel
theorem dJ2_getChar_3b067_15 : decode cJ2_getChar_3b067 15 = .ok (.if_icmp .lt 13, 3) := by decide +kernel
theorem dJ2_getChar_3b067_18 : decode cJ2_getChar_3b067 18 = .ok (.new 52, 3) := by decide +kernel
theorem dJ2_getChar_3b067_21 : decode cJ2_getChar_3b067 21 = .ok (.dup, 1) := by decide +kernel
theorem dJ2_getChar_3b067_22 : decode cJ2_getChar_3b067 22 = .ok (.ldc 54, 2) := by decide +kernel
theorem dJ2_getChar_3b067_24 : decode cJ2_getChar_3b067 24 = .ok (.invokespecial 56, 3) := by decide +kernel
theorem dJ2_getChar_3b067_27 : decode cJ2_getChar_3b067 27 = .ok (.athrow, 1) := by decide +kernel
theorem dJ2_getChar_3b067_28 : decode cJ2_getChar_3b067 28 = .ok (.iload_n 1, 1) := by decide +kernel
theorem dJ2_getChar_3b067_29 : decode cJ2_getChar_3b067 29 = .ok (.iconst 1, 1) := by decide +kernel
theorem dJ2_getChar_3b067_30 : decode cJ2_getChar_3b067 30 = .ok (.ishl, 1) := by decide +kernel
theorem dJ2_getChar_3b067_31 : decode cJ2_getChar_3b067 31 = .ok (.istore_n 1, 1) := by decide +kernel
theorem dJ2_getChar_3b067_32 : decode cJ2_getChar_3b067 32 = .ok (.aload_n 0, 1) := by decide +kernel
theorem dJ2_getChar_3b067_33 : decode cJ2_getChar_3b067 33 = .ok (.iload_n 1, 1) := by decide +kernel
theorem dJ2_getChar_3b067_34 : decode cJ2_getChar_3b067 34 = .ok (.iinc 1 1, 3) := by decide +kernel
theorem dJ2_getChar_3b067_37 : decode cJ2_getChar_3b067 37 = .ok (.baload, 1) := by decide +kernel
theorem dJ2_getChar_3b067_38 : decode cJ2_getChar_3b067 38 = .ok (.sipush 255, 3) := by decide +kernel
theorem dJ2_getChar_3b067_41 : decode cJ2_getChar_3b067 41 = .ok (.iand, 1) := by decide +kernel
theorem dJ2_getChar_3b067_42 : decode cJ2_getChar_3b067 42 = .ok (.getstatic 59, 3) := by decide +kernel
theorem dJ2_getChar_3b067_45 : decode cJ2_getChar_3b067 45 = .ok (.ishl, 1) := by decide +kernel
theorem dJ2_getChar_3b067_46 : decode cJ2_getChar_3b067 46 = .ok (.aload_n 0, 1) := by decide +kernel
theorem dJ2_getChar_3b067_47 : decode cJ2_getChar_3b067 47 = .ok (.iload_n 1, 1) := by decide +kernel
theorem dJ2_getChar_3b067_48 : decode cJ2_getChar_3b067 48 = .ok (.baload, 1) := by decide +kernel
theorem dJ2_getChar_3b067_49 : decode cJ2_getChar_3b067 49 = .ok (.sipush 255, 3) := by decide +kernel
theorem dJ2_getChar_3b067_52 : decode cJ2_getChar_3b067 52 = .ok (.iand, 1) := by decide +kernel
theorem dJ2_getChar_3b067_53 : decode cJ2_getChar_3b067 53 = .ok (.getstatic 63, 3) := by decide +kernel
theorem dJ2_getChar_3b067_56 : decode cJ2_getChar_3b067 56 = .ok (.ishl, 1) := by decide +kernel
theorem dJ2_getChar_3b067_57 : decode cJ2_getChar_3b067 57 = .ok (.ior, 1) := by decide +kernel
theorem dJ2_getChar_3b067_58 : decode cJ2_getChar_3b067 58 = .ok (.i2c, 1) := by decide +kernel
theorem dJ2_getChar_3b067_59 : decode cJ2_getChar_3b067 59 = .ok (.ireturn, 1) := by decide +kernel
theorem dJ2_length_9d52b_0 : decode cJ2_length_9d52b 0 = .ok (.aload_n 0, 1) := by decide +kernel
theorem dJ2_length_9d52b_1 : decode cJ2_length_9d52b 1 = .ok (.arraylength, 1) := by decide +kernel
theorem dJ2_length_9d52b_2 : decode cJ2_length_9d52b 2 = .ok (.iconst 1, 1) := by decide +kernel
theorem dJ2_length_9d52b_3 : decode cJ2_length_9d52b 3 = .ok (.ishr, 1) := by decide +kernel
theorem dJ2_length_9d52b_4 : decode cJ2_length_9d52b 4 = .ok (.ireturn, 1) := by decide +kernel
theorem dJ2_charAt_3b067_0 : decode cJ2_charAt_3b067 0 = .ok (.iload_n 1, 1) := by decide +kernel
theorem dJ2_charAt_3b067_1 : decode cJ2_charAt_3b067 1 = .ok (.aload_n 0, 1) := by decide +kernel
theorem dJ2_charAt_3b067_2 : decode cJ2_charAt_3b067 2 = .ok (.invokestatic 67, 3) := by decide +kernel
theorem dJ2_charAt_3b067_5 : decode cJ2_charAt_3b067 5 = .ok (.aload_n 0, 1) := by decide +kernel
theorem dJ2_charAt_3b067_6 : decode cJ2_charAt_3b067 6 = .ok (.iload_n 1, 1) := by decide +kernel
theorem dJ2_charAt_3b067_7 : decode cJ2_charAt_3b067 7 = .ok (.invokestatic 71, 3) := by decide +kernel
theorem dJ2_charAt_3b067_10 : decode cJ2_charAt_3b067 10 = .ok (.ireturn, 1) := by decide +kernel
theorem dJ2_checkIndex_2214a_0 : decode cJ2_checkIndex_2214a 0 = .ok (.iload_n 0, 1) := by decide +kernel
theorem dJ2_checkIndex_2214a_1 : decode cJ2_checkIndex_2214a 1 = .ok (.aload_n 1, 1) := by decide +kernel
theorem dJ2_checkIndex_2214a_2 : decode cJ2_checkIndex_2214a 2 = .ok (.invokestatic 48, 3) := by decide +kernel
theorem dJ2_checkIndex_2214a_5 : decode cJ2_checkIndex_2214a 5 = .ok (.invokestatic 414, 3) := by decide +kernel
theorem dJ2_checkIndex_2214a_8 : decode cJ2_checkIndex_2214a 8 = .ok (.return_, 1) := by decide +kernel
theorem dJ3_checkIndex_8e157_0 : decode cJ3_checkIndex_8e157 0 = .ok (.iload_n 0, 1) := by decide +kernel
theorem dJ3_checkIndex_8e157_1 : decode cJ3_checkIndex_8e157 1 = .ok (.ifCond .lt 8, 3) := by decide +kernel
theorem dJ3_checkIndex_8e157_4 : decode cJ3_checkIndex_8e157 4 = .ok (.iload_n 0, 1) := by decide +kernel
theorem dJ3_checkIndex_8e157_5 : decode cJ3_checkIndex_8e157 5 = .ok (.iload_n 1, 1) := by decide +kernel
theorem dJ3_checkIndex_8e157_6 : decode cJ3_checkIndex_8e157 6 = .ok (.if_icmp .lt 10, 3) := by decide +kernel
theorem dJ3_checkIndex_8e157_9 : decode cJ3_checkIndex_8e157 9 = .ok (.aload_n 2, 1) := by decide +kernel
theorem dJ3_checkIndex_8e157_10 : decode cJ3_checkIndex_8e157 10 = .ok (.iload_n 0, 1) := by decide +kernel
theorem dJ3_checkIndex_8e157_11 : decode cJ3_checkIndex_8e157 11 = .ok (.iload_n 1, 1) := by decide +kernel
theorem dJ3_checkIndex_8e157_12 : decode cJ3_checkIndex_8e157 12 = .ok (.invokestatic 95, 3) := by decide +kernel
theorem dJ3_checkIndex_8e157_15 : decode cJ3_checkIndex_8e157 15 = .ok (.athrow, 1) := by decide +kernel
theorem dJ3_checkIndex_8e157_16 : decode cJ3_checkIndex_8e157 16 = .ok (.iload_n 0, 1) := by decide +kernel
theorem dJ3_checkIndex_8e157_17 : decode cJ3_checkIndex_8e157 17 = .ok (.ireturn, 1) := by decide +kernel
theorem dL_law_0 : decode cL_law 0 = .ok (.new 7, 3) := by decide +kernel
theorem dL_law_3 : decode cL_law 3 = .ok (.dup, 1) := by decide +kernel
theorem dL_law_4 : decode cL_law 4 = .ok (.invokespecial 9, 3) := by decide +kernel
theorem dL_law_7 : decode cL_law 7 = .ok (.astore_n 1, 1) := by decide +kernel
theorem dL_law_8 : decode cL_law 8 = .ok (.new 10, 3) := by decide +kernel
theorem dL_law_11 : decode cL_law 11 = .ok (.dup, 1) := by decide +kernel
theorem dL_law_12 : decode cL_law 12 = .ok (.invokespecial 12, 3) := by decide +kernel
theorem dL_law_15 : decode cL_law 15 = .ok (.astore_n 2, 1) := by decide +kernel
theorem dL_law_16 : decode cL_law 16 = .ok (.iconst 0, 1) := by decide +kernel
theorem dL_law_17 : decode cL_law 17 = .ok (.istore_n 3, 1) := by decide +kernel
theorem dL_law_18 : decode cL_law 18 = .ok (.iload_n 3, 1) := by decide +kernel
theorem dL_law_19 : decode cL_law 19 = .ok (.aload_n 0, 1) := by decide +kernel
theorem dL_law_20 : decode cL_law 20 = .ok (.arraylength, 1) := by decide +kernel
theorem dL_law_21 : decode cL_law 21 = .ok (.iconst 5, 1) := by decide +kernel
theorem dL_law_22 : decode cL_law 22 = .ok (.isub, 1) := by decide +kernel
theorem dL_law_23 : decode cL_law 23 = .ok (.if_icmp .gt 1420, 3) := by decide +kernel
theorem dL_law_26 : decode cL_law 26 = .ok (.aload_n 0, 1) := by decide +kernel
theorem dL_law_27 : decode cL_law 27 = .ok (.iload_n 3, 1) := by decide +kernel
theorem dL_law_28 : decode cL_law 28 = .ok (.iaload, 1) := by decide +kernel
theorem dL_law_29 : decode cL_law 29 = .ok (.bipush 63, 2) := by decide +kernel
theorem dL_law_31 : decode cL_law 31 = .ok (.iand, 1) := by decide +kernel
theorem dL_law_32 : decode cL_law 32 = .ok (.tableswitch 1405 0 40 #[180, 203, 226, 239, 252, 275, 308, 331, 374, 397, 440, 463, 496, 519, 542, 565, 588, 621, 654, 677, 690, 733, 776, 809, 842, 875, 908, 952, 996, 1039, 1062, 1085, 1108, 1141, 1184, 1207, 1230, 1273, 1316, 1369, 1382], 180) := by decide +kernel
theorem dL_law_212 : decode cL_law 212 = .ok (.aload_n 1, 1) := by decide +kernel
theorem dL_law_213 : decode cL_law 213 = .ok (.aload_n 0, 1) := by decide +kernel
theorem dL_law_214 : decode cL_law 214 = .ok (.iload_n 3, 1) := by decide +kernel
theorem dL_law_215 : decode cL_law 215 = .ok (.iconst 1, 1) := by decide +kernel
theorem dL_law_216 : decode cL_law 216 = .ok (.iadd, 1) := by decide +kernel
theorem dL_law_217 : decode cL_law 217 = .ok (.iaload, 1) := by decide +kernel
theorem dL_law_218 : decode cL_law 218 = .ok (.invokevirtual 13, 3) := by decide +kernel
theorem dL_law_221 : decode cL_law 221 = .ok (.aload_n 2, 1) := by decide +kernel
theorem dL_law_222 : decode cL_law 222 = .ok (.aload_n 0, 1) := by decide +kernel
theorem dL_law_223 : decode cL_law 223 = .ok (.iload_n 3, 1) := by decide +kernel
theorem dL_law_224 : decode cL_law 224 = .ok (.iconst 1, 1) := by decide +kernel
theorem dL_law_225 : decode cL_law 225 = .ok (.iadd, 1) := by decide +kernel
theorem dL_law_226 : decode cL_law 226 = .ok (.iaload, 1) := by decide +kernel
theorem dL_law_227 : decode cL_law 227 = .ok (.invokevirtual 17, 3) := by decide +kernel
theorem dL_law_230 : decode cL_law 230 = .ok (.if_icmp .eq 1207, 3) := by decide +kernel
theorem dL_law_233 : decode cL_law 233 = .ok (.iconst 0, 1) := by decide +kernel
theorem dL_law_234 : decode cL_law 234 = .ok (.ireturn, 1) := by decide +kernel
theorem dL_law_235 : decode cL_law 235 = .ok (.aload_n 1, 1) := by decide +kernel
theorem dL_law_236 : decode cL_law 236 = .ok (.aload_n 0, 1) := by decide +kernel
theorem dL_law_237 : decode cL_law 237 = .ok (.iload_n 3, 1) := by decide +kernel
theorem dL_law_238 : decode cL_law 238 = .ok (.iconst 1, 1) := by decide +kernel
theorem dL_law_239 : decode cL_law 239 = .ok (.iadd, 1) := by decide +kernel
theorem dL_law_240 : decode cL_law 240 = .ok (.iaload, 1) := by decide +kernel
theorem dL_law_241 : decode cL_law 241 = .ok (.invokevirtual 18, 3) := by decide +kernel
theorem dL_law_244 : decode cL_law 244 = .ok (.aload_n 2, 1) := by decide +kernel
theorem dL_law_245 : decode cL_law 245 = .ok (.aload_n 0, 1) := by decide +kernel
theorem dL_law_246 : decode cL_law 246 = .ok (.iload_n 3, 1) := by decide +kernel
theorem dL_law_247 : decode cL_law 247 = .ok (.iconst 1, 1) := by decide +kernel
theorem dL_law_248 : decode cL_law 248 = .ok (.iadd, 1) := by decide +kernel
theorem dL_law_249 : decode cL_law 249 = .ok (.iaload, 1) := by decide +kernel
theorem dL_law_250 : decode cL_law 250 = .ok (.invokevirtual 21, 3) := by decide +kernel
theorem dL_law_253 : decode cL_law 253 = .ok (.if_icmp .eq 1184, 3) := by decide +kernel
theorem dL_law_256 : decode cL_law 256 = .ok (.iconst 0, 1) := by decide +kernel
theorem dL_law_257 : decode cL_law 257 = .ok (.ireturn, 1) := by decide +kernel
theorem dL_law_258 : decode cL_law 258 = .ok (.aload_n 1, 1) := by decide +kernel
theorem dL_law_259 : decode cL_law 259 = .ok (.invokevirtual 22, 3) := by decide +kernel
theorem dL_law_262 : decode cL_law 262 = .ok (.aload_n 2, 1) := by decide +kernel
theorem dL_law_263 : decode cL_law 263 = .ok (.invokevirtual 26, 3) := by decide +kernel
theorem dL_law_266 : decode cL_law 266 = .ok (.if_icmp .eq 1171, 3) := by decide +kernel
theorem dL_law_269 : decode cL_law 269 = .ok (.iconst 0, 1) := by decide +kernel
theorem dL_law_270 : decode cL_law 270 = .ok (.ireturn, 1) := by decide +kernel
theorem dL_law_271 : decode cL_law 271 = .ok (.aload_n 1, 1) := by decide +kernel
theorem dL_law_272 : decode cL_law 272 = .ok (.invokevirtual 27, 3) := by decide +kernel
theorem dL_law_275 : decode cL_law 275 = .ok (.aload_n 2, 1) := by decide +kernel
theorem dL_law_276 : decode cL_law 276 = .ok (.invokevirtual 30, 3) := by decide +kernel
theorem dL_law_279 : decode cL_law 279 = .ok (.if_icmp .eq 1158, 3) := by decide +kernel
theorem dL_law_282 : decode cL_law 282 = .ok (.iconst 0, 1) := by decide +kernel
theorem dL_law_283 : decode cL_law 283 = .ok (.ireturn, 1) := by decide +kernel
theorem dL_law_284 : decode cL_law 284 = .ok (.aload_n 1, 1) := by decide +kernel
theorem dL_law_285 : decode cL_law 285 = .ok (.aload_n 0, 1) := by decide +kernel
theorem dL_law_286 : decode cL_law 286 = .ok (.iload_n 3, 1) := by decide +kernel
theorem dL_law_287 : decode cL_law 287 = .ok (.iconst 1, 1) := by decide +kernel
theorem dL_law_288 : decode cL_law 288 = .ok (.iadd, 1) := by decide +kernel
theorem dL_law_289 : decode cL_law 289 = .ok (.iaload, 1) := by decide +kernel
theorem dL_law_290 : decode cL_law 290 = .ok (.invokevirtual 31, 3) := by decide +kernel
theorem dL_law_293 : decode cL_law 293 = .ok (.aload_n 2, 1) := by decide +kernel
theorem dL_law_294 : decode cL_law 294 = .ok (.aload_n 0, 1) := by decide +kernel
theorem dL_law_295 : decode cL_law 295 = .ok (.iload_n 3, 1) := by decide +kernel
theorem dL_law_296 : decode cL_law 296 = .ok (.iconst 1, 1) := by decide +kernel
theorem dL_law_297 : decode cL_law 297 = .ok (.iadd, 1) := by decide +kernel
theorem dL_law_298 : decode cL_law 298 = .ok (.iaload, 1) := by decide +kernel
theorem dL_law_299 : decode cL_law 299 = .ok (.invokevirtual 34, 3) := by decide +kernel
theorem dL_law_302 : decode cL_law 302 = .ok (.if_icmp .eq 1135, 3) := by decide +kernel
theorem dL_law_305 : decode cL_law 305 = .ok (.iconst 0, 1) := by decide +kernel
theorem dL_law_306 : decode cL_law 306 = .ok (.ireturn, 1) := by decide +kernel
theorem dL_law_307 : decode cL_law 307 = .ok (.aload_n 1, 1) := by decide +kernel
theorem dL_law_308 : decode cL_law 308 = .ok (.aload_n 0, 1) := by decide +kernel
theorem dL_law_309 : decode cL_law 309 = .ok (.iload_n 3, 1) := by decide +kernel
theorem dL_law_310 : decode cL_law 310 = .ok (.iconst 1, 1) := by decide +kernel
theorem dL_law_311 : decode cL_law 311 = .ok (.iadd, 1) := by decide +kernel
theorem dL_law_312 : decode cL_law 312 = .ok (.iaload, 1) := by decide +kernel
theorem dL_law_313 : decode cL_law 313 = .ok (.aload_n 0, 1) := by decide +kernel
theorem dL_law_314 : decode cL_law 314 = .ok (.iload_n 3, 1) := by decide +kernel
theorem dL_law_315 : decode cL_law 315 = .ok (.iconst 2, 1) := by decide +kernel
theorem dL_law_316 : decode cL_law 316 = .ok (.iadd, 1) := by decide +kernel
theorem dL_law_317 : decode cL_law 317 = .ok (.iaload, 1) := by decide +kernel
theorem dL_law_318 : decode cL_law 318 = .ok (.invokevirtual 35, 3) := by decide +kernel
theorem dL_law_321 : decode cL_law 321 = .ok (.aload_n 2, 1) := by decide +kernel
theorem dL_law_322 : decode cL_law 322 = .ok (.aload_n 0, 1) := by decide +kernel
theorem dL_law_323 : decode cL_law 323 = .ok (.iload_n 3, 1) := by decide +kernel
theorem dL_law_324 : decode cL_law 324 = .ok (.iconst 1, 1) := by decide +kernel
theorem dL_law_325 : decode cL_law 325 = .ok (.iadd, 1) := by decide +kernel
theorem dL_law_326 : decode cL_law 326 = .ok (.iaload, 1) := by decide +kernel
theorem dL_law_327 : decode cL_law 327 = .ok (.aload_n 0, 1) := by decide +kernel
theorem dL_law_328 : decode cL_law 328 = .ok (.iload_n 3, 1) := by decide +kernel
theorem dL_law_329 : decode cL_law 329 = .ok (.iconst 2, 1) := by decide +kernel
theorem dL_law_330 : decode cL_law 330 = .ok (.iadd, 1) := by decide +kernel
theorem dL_law_331 : decode cL_law 331 = .ok (.iaload, 1) := by decide +kernel
theorem dL_law_332 : decode cL_law 332 = .ok (.invokevirtual 39, 3) := by decide +kernel
theorem dL_law_335 : decode cL_law 335 = .ok (.if_icmp .eq 1102, 3) := by decide +kernel
theorem dL_law_338 : decode cL_law 338 = .ok (.iconst 0, 1) := by decide +kernel
theorem dL_law_339 : decode cL_law 339 = .ok (.ireturn, 1) := by decide +kernel
theorem dL_law_340 : decode cL_law 340 = .ok (.aload_n 1, 1) := by decide +kernel
theorem dL_law_341 : decode cL_law 341 = .ok (.aload_n 0, 1) := by decide +kernel
theorem dL_law_342 : decode cL_law 342 = .ok (.iload_n 3, 1) := by decide +kernel
theorem dL_law_343 : decode cL_law 343 = .ok (.iconst 1, 1) := by decide +kernel
theorem dL_law_344 : decode cL_law 344 = .ok (.iadd, 1) := by decide +kernel
theorem dL_law_345 : decode cL_law 345 = .ok (.iaload, 1) := by decide +kernel
theorem dL_law_346 : decode cL_law 346 = .ok (.invokevirtual 40, 3) := by decide +kernel
theorem dL_law_349 : decode cL_law 349 = .ok (.aload_n 2, 1) := by decide +kernel
theorem dL_law_350 : decode cL_law 350 = .ok (.aload_n 0, 1) := by decide +kernel
theorem dL_law_351 : decode cL_law 351 = .ok (.iload_n 3, 1) := by decide +kernel
theorem dL_law_352 : decode cL_law 352 = .ok (.iconst 1, 1) := by decide +kernel
theorem dL_law_353 : decode cL_law 353 = .ok (.iadd, 1) := by decide +kernel
theorem dL_law_354 : decode cL_law 354 = .ok (.iaload, 1) := by decide +kernel
theorem dL_law_355 : decode cL_law 355 = .ok (.invokevirtual 43, 3) := by decide +kernel
theorem dL_law_358 : decode cL_law 358 = .ok (.if_icmp .eq 1079, 3) := by decide +kernel
theorem dL_law_361 : decode cL_law 361 = .ok (.iconst 0, 1) := by decide +kernel
theorem dL_law_362 : decode cL_law 362 = .ok (.ireturn, 1) := by decide +kernel
theorem dL_law_363 : decode cL_law 363 = .ok (.aload_n 1, 1) := by decide +kernel
theorem dL_law_364 : decode cL_law 364 = .ok (.aload_n 0, 1) := by decide +kernel
theorem dL_law_365 : decode cL_law 365 = .ok (.iload_n 3, 1) := by decide +kernel
theorem dL_law_366 : decode cL_law 366 = .ok (.iconst 1, 1) := by decide +kernel
theorem dL_law_367 : decode cL_law 367 = .ok (.iadd, 1) := by decide +kernel
theorem dL_law_368 : decode cL_law 368 = .ok (.iaload, 1) := by decide +kernel
theorem dL_law_369 : decode cL_law 369 = .ok (.aload_n 0, 1) := by decide +kernel
theorem dL_law_370 : decode cL_law 370 = .ok (.iload_n 3, 1) := by decide +kernel
theorem dL_law_371 : decode cL_law 371 = .ok (.iconst 2, 1) := by decide +kernel
theorem dL_law_372 : decode cL_law 372 = .ok (.iadd, 1) := by decide +kernel
theorem dL_law_373 : decode cL_law 373 = .ok (.iaload, 1) := by decide +kernel
theorem dL_law_374 : decode cL_law 374 = .ok (.aload_n 0, 1) := by decide +kernel
theorem dL_law_375 : decode cL_law 375 = .ok (.iload_n 3, 1) := by decide +kernel
theorem dL_law_376 : decode cL_law 376 = .ok (.iconst 3, 1) := by decide +kernel
theorem dL_law_377 : decode cL_law 377 = .ok (.iadd, 1) := by decide +kernel
theorem dL_law_378 : decode cL_law 378 = .ok (.iaload, 1) := by decide +kernel
theorem dL_law_379 : decode cL_law 379 = .ok (.invokevirtual 44, 3) := by decide +kernel
theorem dL_law_382 : decode cL_law 382 = .ok (.aload_n 2, 1) := by decide +kernel
theorem dL_law_383 : decode cL_law 383 = .ok (.aload_n 0, 1) := by decide +kernel
theorem dL_law_384 : decode cL_law 384 = .ok (.iload_n 3, 1) := by decide +kernel
theorem dL_law_385 : decode cL_law 385 = .ok (.iconst 1, 1) := by decide +kernel
theorem dL_law_386 : decode cL_law 386 = .ok (.iadd, 1) := by decide +kernel
theorem dL_law_387 : decode cL_law 387 = .ok (.iaload, 1) := by decide +kernel
theorem dL_law_388 : decode cL_law 388 = .ok (.aload_n 0, 1) := by decide +kernel
theorem dL_law_389 : decode cL_law 389 = .ok (.iload_n 3, 1) := by decide +kernel
theorem dL_law_390 : decode cL_law 390 = .ok (.iconst 2, 1) := by decide +kernel
theorem dL_law_391 : decode cL_law 391 = .ok (.iadd, 1) := by decide +kernel
theorem dL_law_392 : decode cL_law 392 = .ok (.iaload, 1) := by decide +kernel
theorem dL_law_393 : decode cL_law 393 = .ok (.aload_n 0, 1) := by decide +kernel
theorem dL_law_394 : decode cL_law 394 = .ok (.iload_n 3, 1) := by decide +kernel
theorem dL_law_395 : decode cL_law 395 = .ok (.iconst 3, 1) := by decide +kernel
theorem dL_law_396 : decode cL_law 396 = .ok (.iadd, 1) := by decide +kernel
theorem dL_law_397 : decode cL_law 397 = .ok (.iaload, 1) := by decide +kernel
theorem dL_law_398 : decode cL_law 398 = .ok (.invokevirtual 48, 3) := by decide +kernel
theorem dL_law_401 : decode cL_law 401 = .ok (.if_icmp .eq 1036, 3) := by decide +kernel
theorem dL_law_404 : decode cL_law 404 = .ok (.iconst 0, 1) := by decide +kernel
theorem dL_law_405 : decode cL_law 405 = .ok (.ireturn, 1) := by decide +kernel
theorem dL_law_406 : decode cL_law 406 = .ok (.aload_n 1, 1) := by decide +kernel
theorem dL_law_407 : decode cL_law 407 = .ok (.aload_n 0, 1) := by decide +kernel
theorem dL_law_408 : decode cL_law 408 = .ok (.iload_n 3, 1) := by decide +kernel
theorem dL_law_409 : decode cL_law 409 = .ok (.iconst 1, 1) := by decide +kernel
theorem dL_law_410 : decode cL_law 410 = .ok (.iadd, 1) := by decide +kernel
theorem dL_law_411 : decode cL_law 411 = .ok (.iaload, 1) := by decide +kernel
theorem dL_law_412 : decode cL_law 412 = .ok (.invokevirtual 49, 3) := by decide +kernel
theorem dL_law_415 : decode cL_law 415 = .ok (.aload_n 2, 1) := by decide +kernel
theorem dL_law_416 : decode cL_law 416 = .ok (.aload_n 0, 1) := by decide +kernel
theorem dL_law_417 : decode cL_law 417 = .ok (.iload_n 3, 1) := by decide +kernel
theorem dL_law_418 : decode cL_law 418 = .ok (.iconst 1, 1) := by decide +kernel
theorem dL_law_419 : decode cL_law 419 = .ok (.iadd, 1) := by decide +kernel
theorem dL_law_420 : decode cL_law 420 = .ok (.iaload, 1) := by decide +kernel
theorem dL_law_421 : decode cL_law 421 = .ok (.invokevirtual 52, 3) := by decide +kernel
theorem dL_law_424 : decode cL_law 424 = .ok (.if_icmp .eq 1013, 3) := by decide +kernel
theorem dL_law_427 : decode cL_law 427 = .ok (.iconst 0, 1) := by decide +kernel
theorem dL_law_428 : decode cL_law 428 = .ok (.ireturn, 1) := by decide +kernel
theorem dL_law_429 : decode cL_law 429 = .ok (.aload_n 1, 1) := by decide +kernel
theorem dL_law_430 : decode cL_law 430 = .ok (.aload_n 0, 1) := by decide +kernel
theorem dL_law_431 : decode cL_law 431 = .ok (.iload_n 3, 1) := by decide +kernel
theorem dL_law_432 : decode cL_law 432 = .ok (.iconst 1, 1) := by decide +kernel
theorem dL_law_433 : decode cL_law 433 = .ok (.iadd, 1) := by decide +kernel
theorem dL_law_434 : decode cL_law 434 = .ok (.iaload, 1) := by decide +kernel
theorem dL_law_435 : decode cL_law 435 = .ok (.aload_n 0, 1) := by decide +kernel
theorem dL_law_436 : decode cL_law 436 = .ok (.iload_n 3, 1) := by decide +kernel
theorem dL_law_437 : decode cL_law 437 = .ok (.iconst 2, 1) := by decide +kernel
theorem dL_law_438 : decode cL_law 438 = .ok (.iadd, 1) := by decide +kernel
theorem dL_law_439 : decode cL_law 439 = .ok (.iaload, 1) := by decide +kernel
theorem dL_law_440 : decode cL_law 440 = .ok (.aload_n 0, 1) := by decide +kernel
theorem dL_law_441 : decode cL_law 441 = .ok (.iload_n 3, 1) := by decide +kernel
theorem dL_law_442 : decode cL_law 442 = .ok (.iconst 3, 1) := by decide +kernel
theorem dL_law_443 : decode cL_law 443 = .ok (.iadd, 1) := by decide +kernel
theorem dL_law_444 : decode cL_law 444 = .ok (.iaload, 1) := by decide +kernel
theorem dL_law_445 : decode cL_law 445 = .ok (.invokevirtual 53, 3) := by decide +kernel
theorem dL_law_448 : decode cL_law 448 = .ok (.aload_n 2, 1) := by decide +kernel
theorem dL_law_449 : decode cL_law 449 = .ok (.aload_n 0, 1) := by decide +kernel
theorem dL_law_450 : decode cL_law 450 = .ok (.iload_n 3, 1) := by decide +kernel
theorem dL_law_451 : decode cL_law 451 = .ok (.iconst 1, 1) := by decide +kernel
theorem dL_law_452 : decode cL_law 452 = .ok (.iadd, 1) := by decide +kernel
theorem dL_law_453 : decode cL_law 453 = .ok (.iaload, 1) := by decide +kernel
theorem dL_law_454 : decode cL_law 454 = .ok (.aload_n 0, 1) := by decide +kernel
theorem dL_law_455 : decode cL_law 455 = .ok (.iload_n 3, 1) := by decide +kernel
theorem dL_law_456 : decode cL_law 456 = .ok (.iconst 2, 1) := by decide +kernel
theorem dL_law_457 : decode cL_law 457 = .ok (.iadd, 1) := by decide +kernel
theorem dL_law_458 : decode cL_law 458 = .ok (.iaload, 1) := by decide +kernel
theorem dL_law_459 : decode cL_law 459 = .ok (.aload_n 0, 1) := by decide +kernel
theorem dL_law_460 : decode cL_law 460 = .ok (.iload_n 3, 1) := by decide +kernel
theorem dL_law_461 : decode cL_law 461 = .ok (.iconst 3, 1) := by decide +kernel
theorem dL_law_462 : decode cL_law 462 = .ok (.iadd, 1) := by decide +kernel
theorem dL_law_463 : decode cL_law 463 = .ok (.iaload, 1) := by decide +kernel
theorem dL_law_464 : decode cL_law 464 = .ok (.invokevirtual 56, 3) := by decide +kernel
theorem dL_law_467 : decode cL_law 467 = .ok (.if_icmp .eq 970, 3) := by decide +kernel
theorem dL_law_470 : decode cL_law 470 = .ok (.iconst 0, 1) := by decide +kernel
theorem dL_law_471 : decode cL_law 471 = .ok (.ireturn, 1) := by decide +kernel
theorem dL_law_472 : decode cL_law 472 = .ok (.aload_n 1, 1) := by decide +kernel
theorem dL_law_473 : decode cL_law 473 = .ok (.aload_n 0, 1) := by decide +kernel
theorem dL_law_474 : decode cL_law 474 = .ok (.iload_n 3, 1) := by decide +kernel
theorem dL_law_475 : decode cL_law 475 = .ok (.iconst 1, 1) := by decide +kernel
theorem dL_law_476 : decode cL_law 476 = .ok (.iadd, 1) := by decide +kernel
theorem dL_law_477 : decode cL_law 477 = .ok (.iaload, 1) := by decide +kernel
theorem dL_law_478 : decode cL_law 478 = .ok (.invokevirtual 57, 3) := by decide +kernel
theorem dL_law_481 : decode cL_law 481 = .ok (.aload_n 2, 1) := by decide +kernel
theorem dL_law_482 : decode cL_law 482 = .ok (.aload_n 0, 1) := by decide +kernel
theorem dL_law_483 : decode cL_law 483 = .ok (.iload_n 3, 1) := by decide +kernel
theorem dL_law_484 : decode cL_law 484 = .ok (.iconst 1, 1) := by decide +kernel
theorem dL_law_485 : decode cL_law 485 = .ok (.iadd, 1) := by decide +kernel
theorem dL_law_486 : decode cL_law 486 = .ok (.iaload, 1) := by decide +kernel
theorem dL_law_487 : decode cL_law 487 = .ok (.invokevirtual 60, 3) := by decide +kernel
theorem dL_law_490 : decode cL_law 490 = .ok (.if_icmp .eq 947, 3) := by decide +kernel
theorem dL_law_493 : decode cL_law 493 = .ok (.iconst 0, 1) := by decide +kernel
theorem dL_law_494 : decode cL_law 494 = .ok (.ireturn, 1) := by decide +kernel
theorem dL_law_495 : decode cL_law 495 = .ok (.aload_n 1, 1) := by decide +kernel
theorem dL_law_496 : decode cL_law 496 = .ok (.aload_n 0, 1) := by decide +kernel
theorem dL_law_497 : decode cL_law 497 = .ok (.iload_n 3, 1) := by decide +kernel
theorem dL_law_498 : decode cL_law 498 = .ok (.iconst 1, 1) := by decide +kernel
theorem dL_law_499 : decode cL_law 499 = .ok (.iadd, 1) := by decide +kernel
theorem dL_law_500 : decode cL_law 500 = .ok (.iaload, 1) := by decide +kernel
theorem dL_law_501 : decode cL_law 501 = .ok (.aload_n 0, 1) := by decide +kernel
theorem dL_law_502 : decode cL_law 502 = .ok (.iload_n 3, 1) := by decide +kernel
theorem dL_law_503 : decode cL_law 503 = .ok (.iconst 2, 1) := by decide +kernel
theorem dL_law_504 : decode cL_law 504 = .ok (.iadd, 1) := by decide +kernel
theorem dL_law_505 : decode cL_law 505 = .ok (.iaload, 1) := by decide +kernel
theorem dL_law_506 : decode cL_law 506 = .ok (.invokevirtual 61, 3) := by decide +kernel
theorem dL_law_509 : decode cL_law 509 = .ok (.aload_n 2, 1) := by decide +kernel
theorem dL_law_510 : decode cL_law 510 = .ok (.aload_n 0, 1) := by decide +kernel
theorem dL_law_511 : decode cL_law 511 = .ok (.iload_n 3, 1) := by decide +kernel
theorem dL_law_512 : decode cL_law 512 = .ok (.iconst 1, 1) := by decide +kernel
theorem dL_law_513 : decode cL_law 513 = .ok (.iadd, 1) := by decide +kernel
theorem dL_law_514 : decode cL_law 514 = .ok (.iaload, 1) := by decide +kernel
theorem dL_law_515 : decode cL_law 515 = .ok (.aload_n 0, 1) := by decide +kernel
theorem dL_law_516 : decode cL_law 516 = .ok (.iload_n 3, 1) := by decide +kernel
theorem dL_law_517 : decode cL_law 517 = .ok (.iconst 2, 1) := by decide +kernel
theorem dL_law_518 : decode cL_law 518 = .ok (.iadd, 1) := by decide +kernel
theorem dL_law_519 : decode cL_law 519 = .ok (.iaload, 1) := by decide +kernel
theorem dL_law_520 : decode cL_law 520 = .ok (.invokevirtual 64, 3) := by decide +kernel
theorem dL_law_523 : decode cL_law 523 = .ok (.if_icmp .eq 914, 3) := by decide +kernel
theorem dL_law_526 : decode cL_law 526 = .ok (.iconst 0, 1) := by decide +kernel
theorem dL_law_527 : decode cL_law 527 = .ok (.ireturn, 1) := by decide +kernel
theorem dL_law_528 : decode cL_law 528 = .ok (.aload_n 1, 1) := by decide +kernel
theorem dL_law_529 : decode cL_law 529 = .ok (.aload_n 0, 1) := by decide +kernel
theorem dL_law_530 : decode cL_law 530 = .ok (.iload_n 3, 1) := by decide +kernel
theorem dL_law_531 : decode cL_law 531 = .ok (.iconst 1, 1) := by decide +kernel
theorem dL_law_532 : decode cL_law 532 = .ok (.iadd, 1) := by decide +kernel
theorem dL_law_533 : decode cL_law 533 = .ok (.iaload, 1) := by decide +kernel
theorem dL_law_534 : decode cL_law 534 = .ok (.invokevirtual 65, 3) := by decide +kernel
theorem dL_law_537 : decode cL_law 537 = .ok (.aload_n 2, 1) := by decide +kernel
theorem dL_law_538 : decode cL_law 538 = .ok (.aload_n 0, 1) := by decide +kernel
theorem dL_law_539 : decode cL_law 539 = .ok (.iload_n 3, 1) := by decide +kernel
theorem dL_law_540 : decode cL_law 540 = .ok (.iconst 1, 1) := by decide +kernel
theorem dL_law_541 : decode cL_law 541 = .ok (.iadd, 1) := by decide +kernel
theorem dL_law_542 : decode cL_law 542 = .ok (.iaload, 1) := by decide +kernel
theorem dL_law_543 : decode cL_law 543 = .ok (.invokevirtual 68, 3) := by decide +kernel
theorem dL_law_546 : decode cL_law 546 = .ok (.if_icmp .eq 891, 3) := by decide +kernel
theorem dL_law_549 : decode cL_law 549 = .ok (.iconst 0, 1) := by decide +kernel
theorem dL_law_550 : decode cL_law 550 = .ok (.ireturn, 1) := by decide +kernel
theorem dL_law_551 : decode cL_law 551 = .ok (.aload_n 1, 1) := by decide +kernel
theorem dL_law_552 : decode cL_law 552 = .ok (.aload_n 0, 1) := by decide +kernel
theorem dL_law_553 : decode cL_law 553 = .ok (.iload_n 3, 1) := by decide +kernel
theorem dL_law_554 : decode cL_law 554 = .ok (.iconst 1, 1) := by decide +kernel
theorem dL_law_555 : decode cL_law 555 = .ok (.iadd, 1) := by decide +kernel
theorem dL_law_556 : decode cL_law 556 = .ok (.iaload, 1) := by decide +kernel
theorem dL_law_557 : decode cL_law 557 = .ok (.invokevirtual 69, 3) := by decide +kernel
theorem dL_law_560 : decode cL_law 560 = .ok (.aload_n 2, 1) := by decide +kernel
theorem dL_law_561 : decode cL_law 561 = .ok (.aload_n 0, 1) := by decide +kernel
theorem dL_law_562 : decode cL_law 562 = .ok (.iload_n 3, 1) := by decide +kernel
theorem dL_law_563 : decode cL_law 563 = .ok (.iconst 1, 1) := by decide +kernel
theorem dL_law_564 : decode cL_law 564 = .ok (.iadd, 1) := by decide +kernel
theorem dL_law_565 : decode cL_law 565 = .ok (.iaload, 1) := by decide +kernel
theorem dL_law_566 : decode cL_law 566 = .ok (.invokevirtual 72, 3) := by decide +kernel
theorem dL_law_569 : decode cL_law 569 = .ok (.if_icmp .eq 868, 3) := by decide +kernel
theorem dL_law_572 : decode cL_law 572 = .ok (.iconst 0, 1) := by decide +kernel
theorem dL_law_573 : decode cL_law 573 = .ok (.ireturn, 1) := by decide +kernel
theorem dL_law_574 : decode cL_law 574 = .ok (.aload_n 1, 1) := by decide +kernel
theorem dL_law_575 : decode cL_law 575 = .ok (.aload_n 0, 1) := by decide +kernel
theorem dL_law_576 : decode cL_law 576 = .ok (.iload_n 3, 1) := by decide +kernel
theorem dL_law_577 : decode cL_law 577 = .ok (.iconst 1, 1) := by decide +kernel
theorem dL_law_578 : decode cL_law 578 = .ok (.iadd, 1) := by decide +kernel
theorem dL_law_579 : decode cL_law 579 = .ok (.iaload, 1) := by decide +kernel
theorem dL_law_580 : decode cL_law 580 = .ok (.invokevirtual 73, 3) := by decide +kernel
theorem dL_law_583 : decode cL_law 583 = .ok (.aload_n 2, 1) := by decide +kernel
theorem dL_law_584 : decode cL_law 584 = .ok (.aload_n 0, 1) := by decide +kernel
theorem dL_law_585 : decode cL_law 585 = .ok (.iload_n 3, 1) := by decide +kernel
theorem dL_law_586 : decode cL_law 586 = .ok (.iconst 1, 1) := by decide +kernel
theorem dL_law_587 : decode cL_law 587 = .ok (.iadd, 1) := by decide +kernel
theorem dL_law_588 : decode cL_law 588 = .ok (.iaload, 1) := by decide +kernel
theorem dL_law_589 : decode cL_law 589 = .ok (.invokevirtual 76, 3) := by decide +kernel
theorem dL_law_592 : decode cL_law 592 = .ok (.if_icmp .eq 845, 3) := by decide +kernel
theorem dL_law_595 : decode cL_law 595 = .ok (.iconst 0, 1) := by decide +kernel
theorem dL_law_596 : decode cL_law 596 = .ok (.ireturn, 1) := by decide +kernel
theorem dL_law_597 : decode cL_law 597 = .ok (.aload_n 1, 1) := by decide +kernel
theorem dL_law_598 : decode cL_law 598 = .ok (.aload_n 0, 1) := by decide +kernel
theorem dL_law_599 : decode cL_law 599 = .ok (.iload_n 3, 1) := by decide +kernel
theorem dL_law_600 : decode cL_law 600 = .ok (.iconst 1, 1) := by decide +kernel
theorem dL_law_601 : decode cL_law 601 = .ok (.iadd, 1) := by decide +kernel
theorem dL_law_602 : decode cL_law 602 = .ok (.iaload, 1) := by decide +kernel
theorem dL_law_603 : decode cL_law 603 = .ok (.invokevirtual 77, 3) := by decide +kernel
theorem dL_law_606 : decode cL_law 606 = .ok (.aload_n 2, 1) := by decide +kernel
theorem dL_law_607 : decode cL_law 607 = .ok (.aload_n 0, 1) := by decide +kernel
theorem dL_law_608 : decode cL_law 608 = .ok (.iload_n 3, 1) := by decide +kernel
theorem dL_law_609 : decode cL_law 609 = .ok (.iconst 1, 1) := by decide +kernel
theorem dL_law_610 : decode cL_law 610 = .ok (.iadd, 1) := by decide +kernel
theorem dL_law_611 : decode cL_law 611 = .ok (.iaload, 1) := by decide +kernel
theorem dL_law_612 : decode cL_law 612 = .ok (.invokevirtual 80, 3) := by decide +kernel
theorem dL_law_615 : decode cL_law 615 = .ok (.if_icmp .eq 822, 3) := by decide +kernel
theorem dL_law_618 : decode cL_law 618 = .ok (.iconst 0, 1) := by decide +kernel
theorem dL_law_619 : decode cL_law 619 = .ok (.ireturn, 1) := by decide +kernel
theorem dL_law_620 : decode cL_law 620 = .ok (.aload_n 1, 1) := by decide +kernel
theorem dL_law_621 : decode cL_law 621 = .ok (.aload_n 0, 1) := by decide +kernel
theorem dL_law_622 : decode cL_law 622 = .ok (.iload_n 3, 1) := by decide +kernel
theorem dL_law_623 : decode cL_law 623 = .ok (.iconst 1, 1) := by decide +kernel
theorem dL_law_624 : decode cL_law 624 = .ok (.iadd, 1) := by decide +kernel
theorem dL_law_625 : decode cL_law 625 = .ok (.iaload, 1) := by decide +kernel
theorem dL_law_626 : decode cL_law 626 = .ok (.aload_n 0, 1) := by decide +kernel
theorem dL_law_627 : decode cL_law 627 = .ok (.iload_n 3, 1) := by decide +kernel
theorem dL_law_628 : decode cL_law 628 = .ok (.iconst 2, 1) := by decide +kernel
theorem dL_law_629 : decode cL_law 629 = .ok (.iadd, 1) := by decide +kernel
theorem dL_law_630 : decode cL_law 630 = .ok (.iaload, 1) := by decide +kernel
theorem dL_law_631 : decode cL_law 631 = .ok (.invokevirtual 81, 3) := by decide +kernel
theorem dL_law_634 : decode cL_law 634 = .ok (.aload_n 2, 1) := by decide +kernel
theorem dL_law_635 : decode cL_law 635 = .ok (.aload_n 0, 1) := by decide +kernel
theorem dL_law_636 : decode cL_law 636 = .ok (.iload_n 3, 1) := by decide +kernel
theorem dL_law_637 : decode cL_law 637 = .ok (.iconst 1, 1) := by decide +kernel
theorem dL_law_638 : decode cL_law 638 = .ok (.iadd, 1) := by decide +kernel
theorem dL_law_639 : decode cL_law 639 = .ok (.iaload, 1) := by decide +kernel
theorem dL_law_640 : decode cL_law 640 = .ok (.aload_n 0, 1) := by decide +kernel
theorem dL_law_641 : decode cL_law 641 = .ok (.iload_n 3, 1) := by decide +kernel
theorem dL_law_642 : decode cL_law 642 = .ok (.iconst 2, 1) := by decide +kernel
theorem dL_law_643 : decode cL_law 643 = .ok (.iadd, 1) := by decide +kernel
theorem dL_law_644 : decode cL_law 644 = .ok (.iaload, 1) := by decide +kernel
theorem dL_law_645 : decode cL_law 645 = .ok (.invokevirtual 84, 3) := by decide +kernel
theorem dL_law_648 : decode cL_law 648 = .ok (.if_icmp .eq 789, 3) := by decide +kernel
theorem dL_law_651 : decode cL_law 651 = .ok (.iconst 0, 1) := by decide +kernel
theorem dL_law_652 : decode cL_law 652 = .ok (.ireturn, 1) := by decide +kernel
theorem dL_law_653 : decode cL_law 653 = .ok (.aload_n 1, 1) := by decide +kernel
theorem dL_law_654 : decode cL_law 654 = .ok (.aload_n 0, 1) := by decide +kernel
theorem dL_law_655 : decode cL_law 655 = .ok (.iload_n 3, 1) := by decide +kernel
theorem dL_law_656 : decode cL_law 656 = .ok (.iconst 1, 1) := by decide +kernel
theorem dL_law_657 : decode cL_law 657 = .ok (.iadd, 1) := by decide +kernel
theorem dL_law_658 : decode cL_law 658 = .ok (.iaload, 1) := by decide +kernel
theorem dL_law_659 : decode cL_law 659 = .ok (.aload_n 0, 1) := by decide +kernel
theorem dL_law_660 : decode cL_law 660 = .ok (.iload_n 3, 1) := by decide +kernel
theorem dL_law_661 : decode cL_law 661 = .ok (.iconst 2, 1) := by decide +kernel
theorem dL_law_662 : decode cL_law 662 = .ok (.iadd, 1) := by decide +kernel
theorem dL_law_663 : decode cL_law 663 = .ok (.iaload, 1) := by decide +kernel
theorem dL_law_664 : decode cL_law 664 = .ok (.invokevirtual 85, 3) := by decide +kernel
theorem dL_law_667 : decode cL_law 667 = .ok (.aload_n 2, 1) := by decide +kernel
theorem dL_law_668 : decode cL_law 668 = .ok (.aload_n 0, 1) := by decide +kernel
theorem dL_law_669 : decode cL_law 669 = .ok (.iload_n 3, 1) := by decide +kernel
theorem dL_law_670 : decode cL_law 670 = .ok (.iconst 1, 1) := by decide +kernel
theorem dL_law_671 : decode cL_law 671 = .ok (.iadd, 1) := by decide +kernel
theorem dL_law_672 : decode cL_law 672 = .ok (.iaload, 1) := by decide +kernel
theorem dL_law_673 : decode cL_law 673 = .ok (.aload_n 0, 1) := by decide +kernel
theorem dL_law_674 : decode cL_law 674 = .ok (.iload_n 3, 1) := by decide +kernel
theorem dL_law_675 : decode cL_law 675 = .ok (.iconst 2, 1) := by decide +kernel
theorem dL_law_676 : decode cL_law 676 = .ok (.iadd, 1) := by decide +kernel
theorem dL_law_677 : decode cL_law 677 = .ok (.iaload, 1) := by decide +kernel
theorem dL_law_678 : decode cL_law 678 = .ok (.invokevirtual 88, 3) := by decide +kernel
theorem dL_law_681 : decode cL_law 681 = .ok (.if_icmp .eq 756, 3) := by decide +kernel
theorem dL_law_684 : decode cL_law 684 = .ok (.iconst 0, 1) := by decide +kernel
theorem dL_law_685 : decode cL_law 685 = .ok (.ireturn, 1) := by decide +kernel
theorem dL_law_686 : decode cL_law 686 = .ok (.aload_n 1, 1) := by decide +kernel
theorem dL_law_687 : decode cL_law 687 = .ok (.aload_n 0, 1) := by decide +kernel
theorem dL_law_688 : decode cL_law 688 = .ok (.iload_n 3, 1) := by decide +kernel
theorem dL_law_689 : decode cL_law 689 = .ok (.iconst 1, 1) := by decide +kernel
theorem dL_law_690 : decode cL_law 690 = .ok (.iadd, 1) := by decide +kernel
theorem dL_law_691 : decode cL_law 691 = .ok (.iaload, 1) := by decide +kernel
theorem dL_law_692 : decode cL_law 692 = .ok (.invokevirtual 89, 3) := by decide +kernel
theorem dL_law_695 : decode cL_law 695 = .ok (.aload_n 2, 1) := by decide +kernel
theorem dL_law_696 : decode cL_law 696 = .ok (.aload_n 0, 1) := by decide +kernel
theorem dL_law_697 : decode cL_law 697 = .ok (.iload_n 3, 1) := by decide +kernel
theorem dL_law_698 : decode cL_law 698 = .ok (.iconst 1, 1) := by decide +kernel
theorem dL_law_699 : decode cL_law 699 = .ok (.iadd, 1) := by decide +kernel
theorem dL_law_700 : decode cL_law 700 = .ok (.iaload, 1) := by decide +kernel
theorem dL_law_701 : decode cL_law 701 = .ok (.invokevirtual 92, 3) := by decide +kernel
theorem dL_law_704 : decode cL_law 704 = .ok (.if_icmp .eq 733, 3) := by decide +kernel
theorem dL_law_707 : decode cL_law 707 = .ok (.iconst 0, 1) := by decide +kernel
theorem dL_law_708 : decode cL_law 708 = .ok (.ireturn, 1) := by decide +kernel
theorem dL_law_709 : decode cL_law 709 = .ok (.aload_n 1, 1) := by decide +kernel
theorem dL_law_710 : decode cL_law 710 = .ok (.invokevirtual 93, 3) := by decide +kernel
theorem dL_law_713 : decode cL_law 713 = .ok (.aload_n 2, 1) := by decide +kernel
theorem dL_law_714 : decode cL_law 714 = .ok (.invokevirtual 96, 3) := by decide +kernel
theorem dL_law_717 : decode cL_law 717 = .ok (.if_icmp .eq 720, 3) := by decide +kernel
theorem dL_law_720 : decode cL_law 720 = .ok (.iconst 0, 1) := by decide +kernel
theorem dL_law_721 : decode cL_law 721 = .ok (.ireturn, 1) := by decide +kernel
theorem dL_law_722 : decode cL_law 722 = .ok (.aload_n 1, 1) := by decide +kernel
theorem dL_law_723 : decode cL_law 723 = .ok (.aload_n 0, 1) := by decide +kernel
theorem dL_law_724 : decode cL_law 724 = .ok (.iload_n 3, 1) := by decide +kernel
theorem dL_law_725 : decode cL_law 725 = .ok (.iconst 1, 1) := by decide +kernel
theorem dL_law_726 : decode cL_law 726 = .ok (.iadd, 1) := by decide +kernel
theorem dL_law_727 : decode cL_law 727 = .ok (.iaload, 1) := by decide +kernel
theorem dL_law_728 : decode cL_law 728 = .ok (.aload_n 0, 1) := by decide +kernel
theorem dL_law_729 : decode cL_law 729 = .ok (.iload_n 3, 1) := by decide +kernel
theorem dL_law_730 : decode cL_law 730 = .ok (.iconst 2, 1) := by decide +kernel
theorem dL_law_731 : decode cL_law 731 = .ok (.iadd, 1) := by decide +kernel
theorem dL_law_732 : decode cL_law 732 = .ok (.iaload, 1) := by decide +kernel
theorem dL_law_733 : decode cL_law 733 = .ok (.aload_n 0, 1) := by decide +kernel
theorem dL_law_734 : decode cL_law 734 = .ok (.iload_n 3, 1) := by decide +kernel
theorem dL_law_735 : decode cL_law 735 = .ok (.iconst 3, 1) := by decide +kernel
theorem dL_law_736 : decode cL_law 736 = .ok (.iadd, 1) := by decide +kernel
theorem dL_law_737 : decode cL_law 737 = .ok (.iaload, 1) := by decide +kernel
theorem dL_law_738 : decode cL_law 738 = .ok (.invokevirtual 97, 3) := by decide +kernel
theorem dL_law_741 : decode cL_law 741 = .ok (.aload_n 2, 1) := by decide +kernel
theorem dL_law_742 : decode cL_law 742 = .ok (.aload_n 0, 1) := by decide +kernel
theorem dL_law_743 : decode cL_law 743 = .ok (.iload_n 3, 1) := by decide +kernel
theorem dL_law_744 : decode cL_law 744 = .ok (.iconst 1, 1) := by decide +kernel
theorem dL_law_745 : decode cL_law 745 = .ok (.iadd, 1) := by decide +kernel
theorem dL_law_746 : decode cL_law 746 = .ok (.iaload, 1) := by decide +kernel
theorem dL_law_747 : decode cL_law 747 = .ok (.aload_n 0, 1) := by decide +kernel
theorem dL_law_748 : decode cL_law 748 = .ok (.iload_n 3, 1) := by decide +kernel
theorem dL_law_749 : decode cL_law 749 = .ok (.iconst 2, 1) := by decide +kernel
theorem dL_law_750 : decode cL_law 750 = .ok (.iadd, 1) := by decide +kernel
theorem dL_law_751 : decode cL_law 751 = .ok (.iaload, 1) := by decide +kernel
theorem dL_law_752 : decode cL_law 752 = .ok (.aload_n 0, 1) := by decide +kernel
theorem dL_law_753 : decode cL_law 753 = .ok (.iload_n 3, 1) := by decide +kernel
theorem dL_law_754 : decode cL_law 754 = .ok (.iconst 3, 1) := by decide +kernel
theorem dL_law_755 : decode cL_law 755 = .ok (.iadd, 1) := by decide +kernel
theorem dL_law_756 : decode cL_law 756 = .ok (.iaload, 1) := by decide +kernel
theorem dL_law_757 : decode cL_law 757 = .ok (.invokevirtual 100, 3) := by decide +kernel
theorem dL_law_760 : decode cL_law 760 = .ok (.if_icmp .eq 677, 3) := by decide +kernel
theorem dL_law_763 : decode cL_law 763 = .ok (.iconst 0, 1) := by decide +kernel
theorem dL_law_764 : decode cL_law 764 = .ok (.ireturn, 1) := by decide +kernel
theorem dL_law_765 : decode cL_law 765 = .ok (.aload_n 1, 1) := by decide +kernel
theorem dL_law_766 : decode cL_law 766 = .ok (.aload_n 0, 1) := by decide +kernel
theorem dL_law_767 : decode cL_law 767 = .ok (.iload_n 3, 1) := by decide +kernel
theorem dL_law_768 : decode cL_law 768 = .ok (.iconst 1, 1) := by decide +kernel
theorem dL_law_769 : decode cL_law 769 = .ok (.iadd, 1) := by decide +kernel
theorem dL_law_770 : decode cL_law 770 = .ok (.iaload, 1) := by decide +kernel
theorem dL_law_771 : decode cL_law 771 = .ok (.aload_n 0, 1) := by decide +kernel
theorem dL_law_772 : decode cL_law 772 = .ok (.iload_n 3, 1) := by decide +kernel
theorem dL_law_773 : decode cL_law 773 = .ok (.iconst 2, 1) := by decide +kernel
theorem dL_law_774 : decode cL_law 774 = .ok (.iadd, 1) := by decide +kernel
theorem dL_law_775 : decode cL_law 775 = .ok (.iaload, 1) := by decide +kernel
theorem dL_law_776 : decode cL_law 776 = .ok (.aload_n 0, 1) := by decide +kernel
theorem dL_law_777 : decode cL_law 777 = .ok (.iload_n 3, 1) := by decide +kernel
theorem dL_law_778 : decode cL_law 778 = .ok (.iconst 3, 1) := by decide +kernel
theorem dL_law_779 : decode cL_law 779 = .ok (.iadd, 1) := by decide +kernel
theorem dL_law_780 : decode cL_law 780 = .ok (.iaload, 1) := by decide +kernel
theorem dL_law_781 : decode cL_law 781 = .ok (.invokevirtual 101, 3) := by decide +kernel
theorem dL_law_784 : decode cL_law 784 = .ok (.aload_n 2, 1) := by decide +kernel
theorem dL_law_785 : decode cL_law 785 = .ok (.aload_n 0, 1) := by decide +kernel
theorem dL_law_786 : decode cL_law 786 = .ok (.iload_n 3, 1) := by decide +kernel
theorem dL_law_787 : decode cL_law 787 = .ok (.iconst 1, 1) := by decide +kernel
theorem dL_law_788 : decode cL_law 788 = .ok (.iadd, 1) := by decide +kernel
theorem dL_law_789 : decode cL_law 789 = .ok (.iaload, 1) := by decide +kernel
theorem dL_law_790 : decode cL_law 790 = .ok (.aload_n 0, 1) := by decide +kernel
theorem dL_law_791 : decode cL_law 791 = .ok (.iload_n 3, 1) := by decide +kernel
theorem dL_law_792 : decode cL_law 792 = .ok (.iconst 2, 1) := by decide +kernel
theorem dL_law_793 : decode cL_law 793 = .ok (.iadd, 1) := by decide +kernel
theorem dL_law_794 : decode cL_law 794 = .ok (.iaload, 1) := by decide +kernel
theorem dL_law_795 : decode cL_law 795 = .ok (.aload_n 0, 1) := by decide +kernel
theorem dL_law_796 : decode cL_law 796 = .ok (.iload_n 3, 1) := by decide +kernel
theorem dL_law_797 : decode cL_law 797 = .ok (.iconst 3, 1) := by decide +kernel
theorem dL_law_798 : decode cL_law 798 = .ok (.iadd, 1) := by decide +kernel
theorem dL_law_799 : decode cL_law 799 = .ok (.iaload, 1) := by decide +kernel
theorem dL_law_800 : decode cL_law 800 = .ok (.invokevirtual 104, 3) := by decide +kernel
theorem dL_law_803 : decode cL_law 803 = .ok (.if_icmp .eq 634, 3) := by decide +kernel
theorem dL_law_806 : decode cL_law 806 = .ok (.iconst 0, 1) := by decide +kernel
theorem dL_law_807 : decode cL_law 807 = .ok (.ireturn, 1) := by decide +kernel
theorem dL_law_808 : decode cL_law 808 = .ok (.aload_n 1, 1) := by decide +kernel
theorem dL_law_809 : decode cL_law 809 = .ok (.aload_n 0, 1) := by decide +kernel
theorem dL_law_810 : decode cL_law 810 = .ok (.iload_n 3, 1) := by decide +kernel
theorem dL_law_811 : decode cL_law 811 = .ok (.iconst 1, 1) := by decide +kernel
theorem dL_law_812 : decode cL_law 812 = .ok (.iadd, 1) := by decide +kernel
theorem dL_law_813 : decode cL_law 813 = .ok (.iaload, 1) := by decide +kernel
theorem dL_law_814 : decode cL_law 814 = .ok (.aload_n 0, 1) := by decide +kernel
theorem dL_law_815 : decode cL_law 815 = .ok (.iload_n 3, 1) := by decide +kernel
theorem dL_law_816 : decode cL_law 816 = .ok (.iconst 2, 1) := by decide +kernel
theorem dL_law_817 : decode cL_law 817 = .ok (.iadd, 1) := by decide +kernel
theorem dL_law_818 : decode cL_law 818 = .ok (.iaload, 1) := by decide +kernel
theorem dL_law_819 : decode cL_law 819 = .ok (.invokevirtual 105, 3) := by decide +kernel
theorem dL_law_822 : decode cL_law 822 = .ok (.aload_n 2, 1) := by decide +kernel
theorem dL_law_823 : decode cL_law 823 = .ok (.aload_n 0, 1) := by decide +kernel
theorem dL_law_824 : decode cL_law 824 = .ok (.iload_n 3, 1) := by decide +kernel
theorem dL_law_825 : decode cL_law 825 = .ok (.iconst 1, 1) := by decide +kernel
theorem dL_law_826 : decode cL_law 826 = .ok (.iadd, 1) := by decide +kernel
theorem dL_law_827 : decode cL_law 827 = .ok (.iaload, 1) := by decide +kernel
theorem dL_law_828 : decode cL_law 828 = .ok (.aload_n 0, 1) := by decide +kernel
theorem dL_law_829 : decode cL_law 829 = .ok (.iload_n 3, 1) := by decide +kernel
theorem dL_law_830 : decode cL_law 830 = .ok (.iconst 2, 1) := by decide +kernel
theorem dL_law_831 : decode cL_law 831 = .ok (.iadd, 1) := by decide +kernel
theorem dL_law_832 : decode cL_law 832 = .ok (.iaload, 1) := by decide +kernel
theorem dL_law_833 : decode cL_law 833 = .ok (.invokevirtual 108, 3) := by decide +kernel
theorem dL_law_836 : decode cL_law 836 = .ok (.if_icmp .eq 601, 3) := by decide +kernel
theorem dL_law_839 : decode cL_law 839 = .ok (.iconst 0, 1) := by decide +kernel
theorem dL_law_840 : decode cL_law 840 = .ok (.ireturn, 1) := by decide +kernel
theorem dL_law_841 : decode cL_law 841 = .ok (.aload_n 1, 1) := by decide +kernel
theorem dL_law_842 : decode cL_law 842 = .ok (.aload_n 0, 1) := by decide +kernel
theorem dL_law_843 : decode cL_law 843 = .ok (.iload_n 3, 1) := by decide +kernel
theorem dL_law_844 : decode cL_law 844 = .ok (.iconst 1, 1) := by decide +kernel
theorem dL_law_845 : decode cL_law 845 = .ok (.iadd, 1) := by decide +kernel
theorem dL_law_846 : decode cL_law 846 = .ok (.iaload, 1) := by decide +kernel
theorem dL_law_847 : decode cL_law 847 = .ok (.aload_n 0, 1) := by decide +kernel
theorem dL_law_848 : decode cL_law 848 = .ok (.iload_n 3, 1) := by decide +kernel
theorem dL_law_849 : decode cL_law 849 = .ok (.iconst 2, 1) := by decide +kernel
theorem dL_law_850 : decode cL_law 850 = .ok (.iadd, 1) := by decide +kernel
theorem dL_law_851 : decode cL_law 851 = .ok (.iaload, 1) := by decide +kernel
theorem dL_law_852 : decode cL_law 852 = .ok (.invokevirtual 109, 3) := by decide +kernel
theorem dL_law_855 : decode cL_law 855 = .ok (.aload_n 2, 1) := by decide +kernel
theorem dL_law_856 : decode cL_law 856 = .ok (.aload_n 0, 1) := by decide +kernel
theorem dL_law_857 : decode cL_law 857 = .ok (.iload_n 3, 1) := by decide +kernel
theorem dL_law_858 : decode cL_law 858 = .ok (.iconst 1, 1) := by decide +kernel
theorem dL_law_859 : decode cL_law 859 = .ok (.iadd, 1) := by decide +kernel
theorem dL_law_860 : decode cL_law 860 = .ok (.iaload, 1) := by decide +kernel
theorem dL_law_861 : decode cL_law 861 = .ok (.aload_n 0, 1) := by decide +kernel
theorem dL_law_862 : decode cL_law 862 = .ok (.iload_n 3, 1) := by decide +kernel
theorem dL_law_863 : decode cL_law 863 = .ok (.iconst 2, 1) := by decide +kernel
theorem dL_law_864 : decode cL_law 864 = .ok (.iadd, 1) := by decide +kernel
theorem dL_law_865 : decode cL_law 865 = .ok (.iaload, 1) := by decide +kernel
theorem dL_law_866 : decode cL_law 866 = .ok (.invokevirtual 112, 3) := by decide +kernel
theorem dL_law_869 : decode cL_law 869 = .ok (.if_icmp .eq 568, 3) := by decide +kernel
theorem dL_law_872 : decode cL_law 872 = .ok (.iconst 0, 1) := by decide +kernel
theorem dL_law_873 : decode cL_law 873 = .ok (.ireturn, 1) := by decide +kernel
theorem dL_law_874 : decode cL_law 874 = .ok (.aload_n 1, 1) := by decide +kernel
theorem dL_law_875 : decode cL_law 875 = .ok (.aload_n 0, 1) := by decide +kernel
theorem dL_law_876 : decode cL_law 876 = .ok (.iload_n 3, 1) := by decide +kernel
theorem dL_law_877 : decode cL_law 877 = .ok (.iconst 1, 1) := by decide +kernel
theorem dL_law_878 : decode cL_law 878 = .ok (.iadd, 1) := by decide +kernel
theorem dL_law_879 : decode cL_law 879 = .ok (.iaload, 1) := by decide +kernel
theorem dL_law_880 : decode cL_law 880 = .ok (.aload_n 0, 1) := by decide +kernel
theorem dL_law_881 : decode cL_law 881 = .ok (.iload_n 3, 1) := by decide +kernel
theorem dL_law_882 : decode cL_law 882 = .ok (.iconst 2, 1) := by decide +kernel
theorem dL_law_883 : decode cL_law 883 = .ok (.iadd, 1) := by decide +kernel
theorem dL_law_884 : decode cL_law 884 = .ok (.iaload, 1) := by decide +kernel
theorem dL_law_885 : decode cL_law 885 = .ok (.invokevirtual 113, 3) := by decide +kernel
theorem dL_law_888 : decode cL_law 888 = .ok (.aload_n 2, 1) := by decide +kernel
theorem dL_law_889 : decode cL_law 889 = .ok (.aload_n 0, 1) := by decide +kernel
theorem dL_law_890 : decode cL_law 890 = .ok (.iload_n 3, 1) := by decide +kernel
theorem dL_law_891 : decode cL_law 891 = .ok (.iconst 1, 1) := by decide +kernel
theorem dL_law_892 : decode cL_law 892 = .ok (.iadd, 1) := by decide +kernel
theorem dL_law_893 : decode cL_law 893 = .ok (.iaload, 1) := by decide +kernel
theorem dL_law_894 : decode cL_law 894 = .ok (.aload_n 0, 1) := by decide +kernel
theorem dL_law_895 : decode cL_law 895 = .ok (.iload_n 3, 1) := by decide +kernel
theorem dL_law_896 : decode cL_law 896 = .ok (.iconst 2, 1) := by decide +kernel
theorem dL_law_897 : decode cL_law 897 = .ok (.iadd, 1) := by decide +kernel
theorem dL_law_898 : decode cL_law 898 = .ok (.iaload, 1) := by decide +kernel
theorem dL_law_899 : decode cL_law 899 = .ok (.invokevirtual 116, 3) := by decide +kernel
theorem dL_law_902 : decode cL_law 902 = .ok (.if_icmp .eq 535, 3) := by decide +kernel
theorem dL_law_905 : decode cL_law 905 = .ok (.iconst 0, 1) := by decide +kernel
theorem dL_law_906 : decode cL_law 906 = .ok (.ireturn, 1) := by decide +kernel
theorem dL_law_907 : decode cL_law 907 = .ok (.aload_n 1, 1) := by decide +kernel
theorem dL_law_908 : decode cL_law 908 = .ok (.aload_n 0, 1) := by decide +kernel
theorem dL_law_909 : decode cL_law 909 = .ok (.iload_n 3, 1) := by decide +kernel
theorem dL_law_910 : decode cL_law 910 = .ok (.iconst 1, 1) := by decide +kernel
theorem dL_law_911 : decode cL_law 911 = .ok (.iadd, 1) := by decide +kernel
theorem dL_law_912 : decode cL_law 912 = .ok (.iaload, 1) := by decide +kernel
theorem dL_law_913 : decode cL_law 913 = .ok (.aload_n 0, 1) := by decide +kernel
theorem dL_law_914 : decode cL_law 914 = .ok (.iload_n 3, 1) := by decide +kernel
theorem dL_law_915 : decode cL_law 915 = .ok (.iconst 2, 1) := by decide +kernel
theorem dL_law_916 : decode cL_law 916 = .ok (.iadd, 1) := by decide +kernel
theorem dL_law_917 : decode cL_law 917 = .ok (.iaload, 1) := by decide +kernel
theorem dL_law_918 : decode cL_law 918 = .ok (.invokevirtual 117, 3) := by decide +kernel
theorem dL_law_921 : decode cL_law 921 = .ok (.aload_n 2, 1) := by decide +kernel
theorem dL_law_922 : decode cL_law 922 = .ok (.aload_n 0, 1) := by decide +kernel
theorem dL_law_923 : decode cL_law 923 = .ok (.iload_n 3, 1) := by decide +kernel
theorem dL_law_924 : decode cL_law 924 = .ok (.iconst 1, 1) := by decide +kernel
theorem dL_law_925 : decode cL_law 925 = .ok (.iadd, 1) := by decide +kernel
theorem dL_law_926 : decode cL_law 926 = .ok (.iaload, 1) := by decide +kernel
theorem dL_law_927 : decode cL_law 927 = .ok (.aload_n 0, 1) := by decide +kernel
theorem dL_law_928 : decode cL_law 928 = .ok (.iload_n 3, 1) := by decide +kernel
theorem dL_law_929 : decode cL_law 929 = .ok (.iconst 2, 1) := by decide +kernel
theorem dL_law_930 : decode cL_law 930 = .ok (.iadd, 1) := by decide +kernel
theorem dL_law_931 : decode cL_law 931 = .ok (.iaload, 1) := by decide +kernel
theorem dL_law_932 : decode cL_law 932 = .ok (.invokevirtual 120, 3) := by decide +kernel
theorem dL_law_935 : decode cL_law 935 = .ok (.if_icmp .eq 502, 3) := by decide +kernel
theorem dL_law_938 : decode cL_law 938 = .ok (.iconst 0, 1) := by decide +kernel
theorem dL_law_939 : decode cL_law 939 = .ok (.ireturn, 1) := by decide +kernel
theorem dL_law_940 : decode cL_law 940 = .ok (.aload_n 1, 1) := by decide +kernel
theorem dL_law_941 : decode cL_law 941 = .ok (.aload_n 0, 1) := by decide +kernel
theorem dL_law_942 : decode cL_law 942 = .ok (.iload_n 3, 1) := by decide +kernel
theorem dL_law_943 : decode cL_law 943 = .ok (.iconst 1, 1) := by decide +kernel
theorem dL_law_944 : decode cL_law 944 = .ok (.iadd, 1) := by decide +kernel
theorem dL_law_945 : decode cL_law 945 = .ok (.iaload, 1) := by decide +kernel
theorem dL_law_946 : decode cL_law 946 = .ok (.aload_n 0, 1) := by decide +kernel
theorem dL_law_947 : decode cL_law 947 = .ok (.iload_n 3, 1) := by decide +kernel
theorem dL_law_948 : decode cL_law 948 = .ok (.iconst 2, 1) := by decide +kernel
theorem dL_law_949 : decode cL_law 949 = .ok (.iadd, 1) := by decide +kernel
theorem dL_law_950 : decode cL_law 950 = .ok (.iaload, 1) := by decide +kernel
theorem dL_law_951 : decode cL_law 951 = .ok (.aload_n 0, 1) := by decide +kernel
theorem dL_law_952 : decode cL_law 952 = .ok (.iload_n 3, 1) := by decide +kernel
theorem dL_law_953 : decode cL_law 953 = .ok (.iconst 3, 1) := by decide +kernel
theorem dL_law_954 : decode cL_law 954 = .ok (.iadd, 1) := by decide +kernel
theorem dL_law_955 : decode cL_law 955 = .ok (.iaload, 1) := by decide +kernel
theorem dL_law_956 : decode cL_law 956 = .ok (.invokevirtual 121, 3) := by decide +kernel
theorem dL_law_959 : decode cL_law 959 = .ok (.aload_n 2, 1) := by decide +kernel
theorem dL_law_960 : decode cL_law 960 = .ok (.aload_n 0, 1) := by decide +kernel
theorem dL_law_961 : decode cL_law 961 = .ok (.iload_n 3, 1) := by decide +kernel
theorem dL_law_962 : decode cL_law 962 = .ok (.iconst 1, 1) := by decide +kernel
theorem dL_law_963 : decode cL_law 963 = .ok (.iadd, 1) := by decide +kernel
theorem dL_law_964 : decode cL_law 964 = .ok (.iaload, 1) := by decide +kernel
theorem dL_law_965 : decode cL_law 965 = .ok (.aload_n 0, 1) := by decide +kernel
theorem dL_law_966 : decode cL_law 966 = .ok (.iload_n 3, 1) := by decide +kernel
theorem dL_law_967 : decode cL_law 967 = .ok (.iconst 2, 1) := by decide +kernel
theorem dL_law_968 : decode cL_law 968 = .ok (.iadd, 1) := by decide +kernel
theorem dL_law_969 : decode cL_law 969 = .ok (.iaload, 1) := by decide +kernel
theorem dL_law_970 : decode cL_law 970 = .ok (.aload_n 0, 1) := by decide +kernel
theorem dL_law_971 : decode cL_law 971 = .ok (.iload_n 3, 1) := by decide +kernel
theorem dL_law_972 : decode cL_law 972 = .ok (.iconst 3, 1) := by decide +kernel
theorem dL_law_973 : decode cL_law 973 = .ok (.iadd, 1) := by decide +kernel
theorem dL_law_974 : decode cL_law 974 = .ok (.iaload, 1) := by decide +kernel
theorem dL_law_975 : decode cL_law 975 = .ok (.invokevirtual 125, 3) := by decide +kernel
theorem dL_law_978 : decode cL_law 978 = .ok (.lcmp, 1) := by decide +kernel
theorem dL_law_979 : decode cL_law 979 = .ok (.ifCond .eq 458, 3) := by decide +kernel
theorem dL_law_982 : decode cL_law 982 = .ok (.iconst 0, 1) := by decide +kernel
theorem dL_law_983 : decode cL_law 983 = .ok (.ireturn, 1) := by decide +kernel
theorem dL_law_984 : decode cL_law 984 = .ok (.aload_n 1, 1) := by decide +kernel
theorem dL_law_985 : decode cL_law 985 = .ok (.aload_n 0, 1) := by decide +kernel
theorem dL_law_986 : decode cL_law 986 = .ok (.iload_n 3, 1) := by decide +kernel
theorem dL_law_987 : decode cL_law 987 = .ok (.iconst 1, 1) := by decide +kernel
theorem dL_law_988 : decode cL_law 988 = .ok (.iadd, 1) := by decide +kernel
theorem dL_law_989 : decode cL_law 989 = .ok (.iaload, 1) := by decide +kernel
theorem dL_law_990 : decode cL_law 990 = .ok (.aload_n 0, 1) := by decide +kernel
theorem dL_law_991 : decode cL_law 991 = .ok (.iload_n 3, 1) := by decide +kernel
theorem dL_law_992 : decode cL_law 992 = .ok (.iconst 2, 1) := by decide +kernel
theorem dL_law_993 : decode cL_law 993 = .ok (.iadd, 1) := by decide +kernel
theorem dL_law_994 : decode cL_law 994 = .ok (.iaload, 1) := by decide +kernel
theorem dL_law_995 : decode cL_law 995 = .ok (.aload_n 0, 1) := by decide +kernel
theorem dL_law_996 : decode cL_law 996 = .ok (.iload_n 3, 1) := by decide +kernel
theorem dL_law_997 : decode cL_law 997 = .ok (.iconst 3, 1) := by decide +kernel
theorem dL_law_998 : decode cL_law 998 = .ok (.iadd, 1) := by decide +kernel
theorem dL_law_999 : decode cL_law 999 = .ok (.iaload, 1) := by decide +kernel
theorem dL_law_1000 : decode cL_law 1000 = .ok (.invokevirtual 126, 3) := by decide +kernel
theorem dL_law_1003 : decode cL_law 1003 = .ok (.aload_n 2, 1) := by decide +kernel
theorem dL_law_1004 : decode cL_law 1004 = .ok (.aload_n 0, 1) := by decide +kernel
theorem dL_law_1005 : decode cL_law 1005 = .ok (.iload_n 3, 1) := by decide +kernel
theorem dL_law_1006 : decode cL_law 1006 = .ok (.iconst 1, 1) := by decide +kernel
theorem dL_law_1007 : decode cL_law 1007 = .ok (.iadd, 1) := by decide +kernel
theorem dL_law_1008 : decode cL_law 1008 = .ok (.iaload, 1) := by decide +kernel
theorem dL_law_1009 : decode cL_law 1009 = .ok (.aload_n 0, 1) := by decide +kernel
theorem dL_law_1010 : decode cL_law 1010 = .ok (.iload_n 3, 1) := by decide +kernel
theorem dL_law_1011 : decode cL_law 1011 = .ok (.iconst 2, 1) := by decide +kernel
theorem dL_law_1012 : decode cL_law 1012 = .ok (.iadd, 1) := by decide +kernel
theorem dL_law_1013 : decode cL_law 1013 = .ok (.iaload, 1) := by decide +kernel
theorem dL_law_1014 : decode cL_law 1014 = .ok (.aload_n 0, 1) := by decide +kernel
theorem dL_law_1015 : decode cL_law 1015 = .ok (.iload_n 3, 1) := by decide +kernel
theorem dL_law_1016 : decode cL_law 1016 = .ok (.iconst 3, 1) := by decide +kernel
theorem dL_law_1017 : decode cL_law 1017 = .ok (.iadd, 1) := by decide +kernel
theorem dL_law_1018 : decode cL_law 1018 = .ok (.iaload, 1) := by decide +kernel
theorem dL_law_1019 : decode cL_law 1019 = .ok (.invokevirtual 129, 3) := by decide +kernel
theorem dL_law_1022 : decode cL_law 1022 = .ok (.lcmp, 1) := by decide +kernel
theorem dL_law_1023 : decode cL_law 1023 = .ok (.ifCond .eq 414, 3) := by decide +kernel
theorem dL_law_1026 : decode cL_law 1026 = .ok (.iconst 0, 1) := by decide +kernel
theorem dL_law_1027 : decode cL_law 1027 = .ok (.ireturn, 1) := by decide +kernel
theorem dL_law_1028 : decode cL_law 1028 = .ok (.aload_n 1, 1) := by decide +kernel
theorem dL_law_1029 : decode cL_law 1029 = .ok (.aload_n 0, 1) := by decide +kernel
theorem dL_law_1030 : decode cL_law 1030 = .ok (.iload_n 3, 1) := by decide +kernel
theorem dL_law_1031 : decode cL_law 1031 = .ok (.iconst 1, 1) := by decide +kernel
theorem dL_law_1032 : decode cL_law 1032 = .ok (.iadd, 1) := by decide +kernel
theorem dL_law_1033 : decode cL_law 1033 = .ok (.iaload, 1) := by decide +kernel
theorem dL_law_1034 : decode cL_law 1034 = .ok (.aload_n 0, 1) := by decide +kernel
theorem dL_law_1035 : decode cL_law 1035 = .ok (.iload_n 3, 1) := by decide +kernel
theorem dL_law_1036 : decode cL_law 1036 = .ok (.iconst 2, 1) := by decide +kernel
theorem dL_law_1037 : decode cL_law 1037 = .ok (.iadd, 1) := by decide +kernel
theorem dL_law_1038 : decode cL_law 1038 = .ok (.iaload, 1) := by decide +kernel
theorem dL_law_1039 : decode cL_law 1039 = .ok (.aload_n 0, 1) := by decide +kernel
theorem dL_law_1040 : decode cL_law 1040 = .ok (.iload_n 3, 1) := by decide +kernel
theorem dL_law_1041 : decode cL_law 1041 = .ok (.iconst 3, 1) := by decide +kernel
theorem dL_law_1042 : decode cL_law 1042 = .ok (.iadd, 1) := by decide +kernel
theorem dL_law_1043 : decode cL_law 1043 = .ok (.iaload, 1) := by decide +kernel
theorem dL_law_1044 : decode cL_law 1044 = .ok (.invokevirtual 130, 3) := by decide +kernel
theorem dL_law_1047 : decode cL_law 1047 = .ok (.aload_n 2, 1) := by decide +kernel
theorem dL_law_1048 : decode cL_law 1048 = .ok (.aload_n 0, 1) := by decide +kernel
theorem dL_law_1049 : decode cL_law 1049 = .ok (.iload_n 3, 1) := by decide +kernel
theorem dL_law_1050 : decode cL_law 1050 = .ok (.iconst 1, 1) := by decide +kernel
theorem dL_law_1051 : decode cL_law 1051 = .ok (.iadd, 1) := by decide +kernel
theorem dL_law_1052 : decode cL_law 1052 = .ok (.iaload, 1) := by decide +kernel
theorem dL_law_1053 : decode cL_law 1053 = .ok (.aload_n 0, 1) := by decide +kernel
theorem dL_law_1054 : decode cL_law 1054 = .ok (.iload_n 3, 1) := by decide +kernel
theorem dL_law_1055 : decode cL_law 1055 = .ok (.iconst 2, 1) := by decide +kernel
theorem dL_law_1056 : decode cL_law 1056 = .ok (.iadd, 1) := by decide +kernel
theorem dL_law_1057 : decode cL_law 1057 = .ok (.iaload, 1) := by decide +kernel
theorem dL_law_1058 : decode cL_law 1058 = .ok (.aload_n 0, 1) := by decide +kernel
theorem dL_law_1059 : decode cL_law 1059 = .ok (.iload_n 3, 1) := by decide +kernel
theorem dL_law_1060 : decode cL_law 1060 = .ok (.iconst 3, 1) := by decide +kernel
theorem dL_law_1061 : decode cL_law 1061 = .ok (.iadd, 1) := by decide +kernel
theorem dL_law_1062 : decode cL_law 1062 = .ok (.iaload, 1) := by decide +kernel
theorem dL_law_1063 : decode cL_law 1063 = .ok (.invokevirtual 133, 3) := by decide +kernel
theorem dL_law_1066 : decode cL_law 1066 = .ok (.if_icmp .eq 371, 3) := by decide +kernel
theorem dL_law_1069 : decode cL_law 1069 = .ok (.iconst 0, 1) := by decide +kernel
theorem dL_law_1070 : decode cL_law 1070 = .ok (.ireturn, 1) := by decide +kernel
theorem dL_law_1071 : decode cL_law 1071 = .ok (.aload_n 1, 1) := by decide +kernel
theorem dL_law_1072 : decode cL_law 1072 = .ok (.aload_n 0, 1) := by decide +kernel
theorem dL_law_1073 : decode cL_law 1073 = .ok (.iload_n 3, 1) := by decide +kernel
theorem dL_law_1074 : decode cL_law 1074 = .ok (.iconst 1, 1) := by decide +kernel
theorem dL_law_1075 : decode cL_law 1075 = .ok (.iadd, 1) := by decide +kernel
theorem dL_law_1076 : decode cL_law 1076 = .ok (.iaload, 1) := by decide +kernel
theorem dL_law_1077 : decode cL_law 1077 = .ok (.invokevirtual 134, 3) := by decide +kernel
theorem dL_law_1080 : decode cL_law 1080 = .ok (.aload_n 2, 1) := by decide +kernel
theorem dL_law_1081 : decode cL_law 1081 = .ok (.aload_n 0, 1) := by decide +kernel
theorem dL_law_1082 : decode cL_law 1082 = .ok (.iload_n 3, 1) := by decide +kernel
theorem dL_law_1083 : decode cL_law 1083 = .ok (.iconst 1, 1) := by decide +kernel
theorem dL_law_1084 : decode cL_law 1084 = .ok (.iadd, 1) := by decide +kernel
theorem dL_law_1085 : decode cL_law 1085 = .ok (.iaload, 1) := by decide +kernel
theorem dL_law_1086 : decode cL_law 1086 = .ok (.invokevirtual 137, 3) := by decide +kernel
theorem dL_law_1089 : decode cL_law 1089 = .ok (.if_icmp .eq 348, 3) := by decide +kernel
theorem dL_law_1092 : decode cL_law 1092 = .ok (.iconst 0, 1) := by decide +kernel
theorem dL_law_1093 : decode cL_law 1093 = .ok (.ireturn, 1) := by decide +kernel
theorem dL_law_1094 : decode cL_law 1094 = .ok (.aload_n 1, 1) := by decide +kernel
theorem dL_law_1095 : decode cL_law 1095 = .ok (.aload_n 0, 1) := by decide +kernel
theorem dL_law_1096 : decode cL_law 1096 = .ok (.iload_n 3, 1) := by decide +kernel
theorem dL_law_1097 : decode cL_law 1097 = .ok (.iconst 1, 1) := by decide +kernel
theorem dL_law_1098 : decode cL_law 1098 = .ok (.iadd, 1) := by decide +kernel
theorem dL_law_1099 : decode cL_law 1099 = .ok (.iaload, 1) := by decide +kernel
theorem dL_law_1100 : decode cL_law 1100 = .ok (.invokevirtual 138, 3) := by decide +kernel
theorem dL_law_1103 : decode cL_law 1103 = .ok (.aload_n 2, 1) := by decide +kernel
theorem dL_law_1104 : decode cL_law 1104 = .ok (.aload_n 0, 1) := by decide +kernel
theorem dL_law_1105 : decode cL_law 1105 = .ok (.iload_n 3, 1) := by decide +kernel
theorem dL_law_1106 : decode cL_law 1106 = .ok (.iconst 1, 1) := by decide +kernel
theorem dL_law_1107 : decode cL_law 1107 = .ok (.iadd, 1) := by decide +kernel
theorem dL_law_1108 : decode cL_law 1108 = .ok (.iaload, 1) := by decide +kernel
theorem dL_law_1109 : decode cL_law 1109 = .ok (.invokevirtual 141, 3) := by decide +kernel
theorem dL_law_1112 : decode cL_law 1112 = .ok (.if_icmp .eq 325, 3) := by decide +kernel
theorem dL_law_1115 : decode cL_law 1115 = .ok (.iconst 0, 1) := by decide +kernel
theorem dL_law_1116 : decode cL_law 1116 = .ok (.ireturn, 1) := by decide +kernel
theorem dL_law_1117 : decode cL_law 1117 = .ok (.aload_n 1, 1) := by decide +kernel
theorem dL_law_1118 : decode cL_law 1118 = .ok (.aload_n 0, 1) := by decide +kernel
theorem dL_law_1119 : decode cL_law 1119 = .ok (.iload_n 3, 1) := by decide +kernel
theorem dL_law_1120 : decode cL_law 1120 = .ok (.iconst 1, 1) := by decide +kernel
theorem dL_law_1121 : decode cL_law 1121 = .ok (.iadd, 1) := by decide +kernel
theorem dL_law_1122 : decode cL_law 1122 = .ok (.iaload, 1) := by decide +kernel
theorem dL_law_1123 : decode cL_law 1123 = .ok (.invokevirtual 142, 3) := by decide +kernel
theorem dL_law_1126 : decode cL_law 1126 = .ok (.aload_n 2, 1) := by decide +kernel
theorem dL_law_1127 : decode cL_law 1127 = .ok (.aload_n 0, 1) := by decide +kernel
theorem dL_law_1128 : decode cL_law 1128 = .ok (.iload_n 3, 1) := by decide +kernel
theorem dL_law_1129 : decode cL_law 1129 = .ok (.iconst 1, 1) := by decide +kernel
theorem dL_law_1130 : decode cL_law 1130 = .ok (.iadd, 1) := by decide +kernel
theorem dL_law_1131 : decode cL_law 1131 = .ok (.iaload, 1) := by decide +kernel
theorem dL_law_1132 : decode cL_law 1132 = .ok (.invokevirtual 145, 3) := by decide +kernel
theorem dL_law_1135 : decode cL_law 1135 = .ok (.if_icmp .eq 302, 3) := by decide +kernel
theorem dL_law_1138 : decode cL_law 1138 = .ok (.iconst 0, 1) := by decide +kernel
theorem dL_law_1139 : decode cL_law 1139 = .ok (.ireturn, 1) := by decide +kernel
theorem dL_law_1140 : decode cL_law 1140 = .ok (.aload_n 1, 1) := by decide +kernel
theorem dL_law_1141 : decode cL_law 1141 = .ok (.aload_n 0, 1) := by decide +kernel
theorem dL_law_1142 : decode cL_law 1142 = .ok (.iload_n 3, 1) := by decide +kernel
theorem dL_law_1143 : decode cL_law 1143 = .ok (.iconst 1, 1) := by decide +kernel
theorem dL_law_1144 : decode cL_law 1144 = .ok (.iadd, 1) := by decide +kernel
theorem dL_law_1145 : decode cL_law 1145 = .ok (.iaload, 1) := by decide +kernel
theorem dL_law_1146 : decode cL_law 1146 = .ok (.aload_n 0, 1) := by decide +kernel
theorem dL_law_1147 : decode cL_law 1147 = .ok (.iload_n 3, 1) := by decide +kernel
theorem dL_law_1148 : decode cL_law 1148 = .ok (.iconst 2, 1) := by decide +kernel
theorem dL_law_1149 : decode cL_law 1149 = .ok (.iadd, 1) := by decide +kernel
theorem dL_law_1150 : decode cL_law 1150 = .ok (.iaload, 1) := by decide +kernel
theorem dL_law_1151 : decode cL_law 1151 = .ok (.invokevirtual 146, 3) := by decide +kernel
theorem dL_law_1154 : decode cL_law 1154 = .ok (.aload_n 2, 1) := by decide +kernel
theorem dL_law_1155 : decode cL_law 1155 = .ok (.aload_n 0, 1) := by decide +kernel
theorem dL_law_1156 : decode cL_law 1156 = .ok (.iload_n 3, 1) := by decide +kernel
theorem dL_law_1157 : decode cL_law 1157 = .ok (.iconst 1, 1) := by decide +kernel
theorem dL_law_1158 : decode cL_law 1158 = .ok (.iadd, 1) := by decide +kernel
theorem dL_law_1159 : decode cL_law 1159 = .ok (.iaload, 1) := by decide +kernel
theorem dL_law_1160 : decode cL_law 1160 = .ok (.aload_n 0, 1) := by decide +kernel
theorem dL_law_1161 : decode cL_law 1161 = .ok (.iload_n 3, 1) := by decide +kernel
theorem dL_law_1162 : decode cL_law 1162 = .ok (.iconst 2, 1) := by decide +kernel
theorem dL_law_1163 : decode cL_law 1163 = .ok (.iadd, 1) := by decide +kernel
theorem dL_law_1164 : decode cL_law 1164 = .ok (.iaload, 1) := by decide +kernel
theorem dL_law_1165 : decode cL_law 1165 = .ok (.invokevirtual 149, 3) := by decide +kernel
theorem dL_law_1168 : decode cL_law 1168 = .ok (.if_icmp .eq 269, 3) := by decide +kernel
theorem dL_law_1171 : decode cL_law 1171 = .ok (.iconst 0, 1) := by decide +kernel
theorem dL_law_1172 : decode cL_law 1172 = .ok (.ireturn, 1) := by decide +kernel
theorem dL_law_1173 : decode cL_law 1173 = .ok (.aload_n 1, 1) := by decide +kernel
theorem dL_law_1174 : decode cL_law 1174 = .ok (.aload_n 0, 1) := by decide +kernel
theorem dL_law_1175 : decode cL_law 1175 = .ok (.iload_n 3, 1) := by decide +kernel
theorem dL_law_1176 : decode cL_law 1176 = .ok (.iconst 1, 1) := by decide +kernel
theorem dL_law_1177 : decode cL_law 1177 = .ok (.iadd, 1) := by decide +kernel
theorem dL_law_1178 : decode cL_law 1178 = .ok (.iaload, 1) := by decide +kernel
theorem dL_law_1179 : decode cL_law 1179 = .ok (.aload_n 0, 1) := by decide +kernel
theorem dL_law_1180 : decode cL_law 1180 = .ok (.iload_n 3, 1) := by decide +kernel
theorem dL_law_1181 : decode cL_law 1181 = .ok (.iconst 2, 1) := by decide +kernel
theorem dL_law_1182 : decode cL_law 1182 = .ok (.iadd, 1) := by decide +kernel
theorem dL_law_1183 : decode cL_law 1183 = .ok (.iaload, 1) := by decide +kernel
theorem dL_law_1184 : decode cL_law 1184 = .ok (.aload_n 0, 1) := by decide +kernel
theorem dL_law_1185 : decode cL_law 1185 = .ok (.iload_n 3, 1) := by decide +kernel
theorem dL_law_1186 : decode cL_law 1186 = .ok (.iconst 3, 1) := by decide +kernel
theorem dL_law_1187 : decode cL_law 1187 = .ok (.iadd, 1) := by decide +kernel
theorem dL_law_1188 : decode cL_law 1188 = .ok (.iaload, 1) := by decide +kernel
theorem dL_law_1189 : decode cL_law 1189 = .ok (.invokevirtual 150, 3) := by decide +kernel
theorem dL_law_1192 : decode cL_law 1192 = .ok (.aload_n 2, 1) := by decide +kernel
theorem dL_law_1193 : decode cL_law 1193 = .ok (.aload_n 0, 1) := by decide +kernel
theorem dL_law_1194 : decode cL_law 1194 = .ok (.iload_n 3, 1) := by decide +kernel
theorem dL_law_1195 : decode cL_law 1195 = .ok (.iconst 1, 1) := by decide +kernel
theorem dL_law_1196 : decode cL_law 1196 = .ok (.iadd, 1) := by decide +kernel
theorem dL_law_1197 : decode cL_law 1197 = .ok (.iaload, 1) := by decide +kernel
theorem dL_law_1198 : decode cL_law 1198 = .ok (.aload_n 0, 1) := by decide +kernel
theorem dL_law_1199 : decode cL_law 1199 = .ok (.iload_n 3, 1) := by decide +kernel
theorem dL_law_1200 : decode cL_law 1200 = .ok (.iconst 2, 1) := by decide +kernel
theorem dL_law_1201 : decode cL_law 1201 = .ok (.iadd, 1) := by decide +kernel
theorem dL_law_1202 : decode cL_law 1202 = .ok (.iaload, 1) := by decide +kernel
theorem dL_law_1203 : decode cL_law 1203 = .ok (.aload_n 0, 1) := by decide +kernel
theorem dL_law_1204 : decode cL_law 1204 = .ok (.iload_n 3, 1) := by decide +kernel
theorem dL_law_1205 : decode cL_law 1205 = .ok (.iconst 3, 1) := by decide +kernel
theorem dL_law_1206 : decode cL_law 1206 = .ok (.iadd, 1) := by decide +kernel
theorem dL_law_1207 : decode cL_law 1207 = .ok (.iaload, 1) := by decide +kernel
theorem dL_law_1208 : decode cL_law 1208 = .ok (.invokevirtual 153, 3) := by decide +kernel
theorem dL_law_1211 : decode cL_law 1211 = .ok (.if_icmp .eq 226, 3) := by decide +kernel
theorem dL_law_1214 : decode cL_law 1214 = .ok (.iconst 0, 1) := by decide +kernel
theorem dL_law_1215 : decode cL_law 1215 = .ok (.ireturn, 1) := by decide +kernel
theorem dL_law_1216 : decode cL_law 1216 = .ok (.aload_n 1, 1) := by decide +kernel
theorem dL_law_1217 : decode cL_law 1217 = .ok (.aload_n 0, 1) := by decide +kernel
theorem dL_law_1218 : decode cL_law 1218 = .ok (.iload_n 3, 1) := by decide +kernel
theorem dL_law_1219 : decode cL_law 1219 = .ok (.iconst 1, 1) := by decide +kernel
theorem dL_law_1220 : decode cL_law 1220 = .ok (.iadd, 1) := by decide +kernel
theorem dL_law_1221 : decode cL_law 1221 = .ok (.iaload, 1) := by decide +kernel
theorem dL_law_1222 : decode cL_law 1222 = .ok (.invokevirtual 154, 3) := by decide +kernel
theorem dL_law_1225 : decode cL_law 1225 = .ok (.aload_n 2, 1) := by decide +kernel
theorem dL_law_1226 : decode cL_law 1226 = .ok (.aload_n 0, 1) := by decide +kernel
theorem dL_law_1227 : decode cL_law 1227 = .ok (.iload_n 3, 1) := by decide +kernel
theorem dL_law_1228 : decode cL_law 1228 = .ok (.iconst 1, 1) := by decide +kernel
theorem dL_law_1229 : decode cL_law 1229 = .ok (.iadd, 1) := by decide +kernel
theorem dL_law_1230 : decode cL_law 1230 = .ok (.iaload, 1) := by decide +kernel
theorem dL_law_1231 : decode cL_law 1231 = .ok (.invokevirtual 157, 3) := by decide +kernel
theorem dL_law_1234 : decode cL_law 1234 = .ok (.if_icmp .eq 203, 3) := by decide +kernel
theorem dL_law_1237 : decode cL_law 1237 = .ok (.iconst 0, 1) := by decide +kernel
theorem dL_law_1238 : decode cL_law 1238 = .ok (.ireturn, 1) := by decide +kernel
theorem dL_law_1239 : decode cL_law 1239 = .ok (.aload_n 1, 1) := by decide +kernel
theorem dL_law_1240 : decode cL_law 1240 = .ok (.aload_n 0, 1) := by decide +kernel
theorem dL_law_1241 : decode cL_law 1241 = .ok (.iload_n 3, 1) := by decide +kernel
theorem dL_law_1242 : decode cL_law 1242 = .ok (.iconst 1, 1) := by decide +kernel
theorem dL_law_1243 : decode cL_law 1243 = .ok (.iadd, 1) := by decide +kernel
theorem dL_law_1244 : decode cL_law 1244 = .ok (.iaload, 1) := by decide +kernel
theorem dL_law_1245 : decode cL_law 1245 = .ok (.invokevirtual 158, 3) := by decide +kernel
theorem dL_law_1248 : decode cL_law 1248 = .ok (.aload_n 2, 1) := by decide +kernel
theorem dL_law_1249 : decode cL_law 1249 = .ok (.aload_n 0, 1) := by decide +kernel
theorem dL_law_1250 : decode cL_law 1250 = .ok (.iload_n 3, 1) := by decide +kernel
theorem dL_law_1251 : decode cL_law 1251 = .ok (.iconst 1, 1) := by decide +kernel
theorem dL_law_1252 : decode cL_law 1252 = .ok (.iadd, 1) := by decide +kernel
theorem dL_law_1253 : decode cL_law 1253 = .ok (.iaload, 1) := by decide +kernel
theorem dL_law_1254 : decode cL_law 1254 = .ok (.invokevirtual 161, 3) := by decide +kernel
theorem dL_law_1257 : decode cL_law 1257 = .ok (.if_icmp .eq 180, 3) := by decide +kernel
theorem dL_law_1260 : decode cL_law 1260 = .ok (.iconst 0, 1) := by decide +kernel
theorem dL_law_1261 : decode cL_law 1261 = .ok (.ireturn, 1) := by decide +kernel
theorem dL_law_1262 : decode cL_law 1262 = .ok (.aload_n 1, 1) := by decide +kernel
theorem dL_law_1263 : decode cL_law 1263 = .ok (.aload_n 0, 1) := by decide +kernel
theorem dL_law_1264 : decode cL_law 1264 = .ok (.iload_n 3, 1) := by decide +kernel
theorem dL_law_1265 : decode cL_law 1265 = .ok (.iconst 1, 1) := by decide +kernel
theorem dL_law_1266 : decode cL_law 1266 = .ok (.iadd, 1) := by decide +kernel
theorem dL_law_1267 : decode cL_law 1267 = .ok (.iaload, 1) := by decide +kernel
theorem dL_law_1268 : decode cL_law 1268 = .ok (.aload_n 0, 1) := by decide +kernel
theorem dL_law_1269 : decode cL_law 1269 = .ok (.iload_n 3, 1) := by decide +kernel
theorem dL_law_1270 : decode cL_law 1270 = .ok (.iconst 2, 1) := by decide +kernel
theorem dL_law_1271 : decode cL_law 1271 = .ok (.iadd, 1) := by decide +kernel
theorem dL_law_1272 : decode cL_law 1272 = .ok (.iaload, 1) := by decide +kernel
theorem dL_law_1273 : decode cL_law 1273 = .ok (.aload_n 0, 1) := by decide +kernel
theorem dL_law_1274 : decode cL_law 1274 = .ok (.iload_n 3, 1) := by decide +kernel
theorem dL_law_1275 : decode cL_law 1275 = .ok (.iconst 3, 1) := by decide +kernel
theorem dL_law_1276 : decode cL_law 1276 = .ok (.iadd, 1) := by decide +kernel
theorem dL_law_1277 : decode cL_law 1277 = .ok (.iaload, 1) := by decide +kernel
theorem dL_law_1278 : decode cL_law 1278 = .ok (.invokevirtual 162, 3) := by decide +kernel
theorem dL_law_1281 : decode cL_law 1281 = .ok (.aload_n 2, 1) := by decide +kernel
theorem dL_law_1282 : decode cL_law 1282 = .ok (.aload_n 0, 1) := by decide +kernel
theorem dL_law_1283 : decode cL_law 1283 = .ok (.iload_n 3, 1) := by decide +kernel
theorem dL_law_1284 : decode cL_law 1284 = .ok (.iconst 1, 1) := by decide +kernel
theorem dL_law_1285 : decode cL_law 1285 = .ok (.iadd, 1) := by decide +kernel
theorem dL_law_1286 : decode cL_law 1286 = .ok (.iaload, 1) := by decide +kernel
theorem dL_law_1287 : decode cL_law 1287 = .ok (.aload_n 0, 1) := by decide +kernel
theorem dL_law_1288 : decode cL_law 1288 = .ok (.iload_n 3, 1) := by decide +kernel
theorem dL_law_1289 : decode cL_law 1289 = .ok (.iconst 2, 1) := by decide +kernel
theorem dL_law_1290 : decode cL_law 1290 = .ok (.iadd, 1) := by decide +kernel
theorem dL_law_1291 : decode cL_law 1291 = .ok (.iaload, 1) := by decide +kernel
theorem dL_law_1292 : decode cL_law 1292 = .ok (.aload_n 0, 1) := by decide +kernel
theorem dL_law_1293 : decode cL_law 1293 = .ok (.iload_n 3, 1) := by decide +kernel
theorem dL_law_1294 : decode cL_law 1294 = .ok (.iconst 3, 1) := by decide +kernel
theorem dL_law_1295 : decode cL_law 1295 = .ok (.iadd, 1) := by decide +kernel
theorem dL_law_1296 : decode cL_law 1296 = .ok (.iaload, 1) := by decide +kernel
theorem dL_law_1297 : decode cL_law 1297 = .ok (.invokevirtual 165, 3) := by decide +kernel
theorem dL_law_1300 : decode cL_law 1300 = .ok (.if_icmp .eq 137, 3) := by decide +kernel
theorem dL_law_1303 : decode cL_law 1303 = .ok (.iconst 0, 1) := by decide +kernel
theorem dL_law_1304 : decode cL_law 1304 = .ok (.ireturn, 1) := by decide +kernel
theorem dL_law_1305 : decode cL_law 1305 = .ok (.aload_n 1, 1) := by decide +kernel
theorem dL_law_1306 : decode cL_law 1306 = .ok (.aload_n 0, 1) := by decide +kernel
theorem dL_law_1307 : decode cL_law 1307 = .ok (.iload_n 3, 1) := by decide +kernel
theorem dL_law_1308 : decode cL_law 1308 = .ok (.iconst 1, 1) := by decide +kernel
theorem dL_law_1309 : decode cL_law 1309 = .ok (.iadd, 1) := by decide +kernel
theorem dL_law_1310 : decode cL_law 1310 = .ok (.iaload, 1) := by decide +kernel
theorem dL_law_1311 : decode cL_law 1311 = .ok (.aload_n 0, 1) := by decide +kernel
theorem dL_law_1312 : decode cL_law 1312 = .ok (.iload_n 3, 1) := by decide +kernel
theorem dL_law_1313 : decode cL_law 1313 = .ok (.iconst 2, 1) := by decide +kernel
theorem dL_law_1314 : decode cL_law 1314 = .ok (.iadd, 1) := by decide +kernel
theorem dL_law_1315 : decode cL_law 1315 = .ok (.iaload, 1) := by decide +kernel
theorem dL_law_1316 : decode cL_law 1316 = .ok (.aload_n 0, 1) := by decide +kernel
theorem dL_law_1317 : decode cL_law 1317 = .ok (.iload_n 3, 1) := by decide +kernel
theorem dL_law_1318 : decode cL_law 1318 = .ok (.iconst 3, 1) := by decide +kernel
theorem dL_law_1319 : decode cL_law 1319 = .ok (.iadd, 1) := by decide +kernel
theorem dL_law_1320 : decode cL_law 1320 = .ok (.iaload, 1) := by decide +kernel
theorem dL_law_1321 : decode cL_law 1321 = .ok (.invokevirtual 166, 3) := by decide +kernel
theorem dL_law_1324 : decode cL_law 1324 = .ok (.aload_n 2, 1) := by decide +kernel
theorem dL_law_1325 : decode cL_law 1325 = .ok (.aload_n 0, 1) := by decide +kernel
theorem dL_law_1326 : decode cL_law 1326 = .ok (.iload_n 3, 1) := by decide +kernel
theorem dL_law_1327 : decode cL_law 1327 = .ok (.iconst 1, 1) := by decide +kernel
theorem dL_law_1328 : decode cL_law 1328 = .ok (.iadd, 1) := by decide +kernel
theorem dL_law_1329 : decode cL_law 1329 = .ok (.iaload, 1) := by decide +kernel
theorem dL_law_1330 : decode cL_law 1330 = .ok (.aload_n 0, 1) := by decide +kernel
theorem dL_law_1331 : decode cL_law 1331 = .ok (.iload_n 3, 1) := by decide +kernel
theorem dL_law_1332 : decode cL_law 1332 = .ok (.iconst 2, 1) := by decide +kernel
theorem dL_law_1333 : decode cL_law 1333 = .ok (.iadd, 1) := by decide +kernel
theorem dL_law_1334 : decode cL_law 1334 = .ok (.iaload, 1) := by decide +kernel
theorem dL_law_1335 : decode cL_law 1335 = .ok (.aload_n 0, 1) := by decide +kernel
theorem dL_law_1336 : decode cL_law 1336 = .ok (.iload_n 3, 1) := by decide +kernel
theorem dL_law_1337 : decode cL_law 1337 = .ok (.iconst 3, 1) := by decide +kernel
theorem dL_law_1338 : decode cL_law 1338 = .ok (.iadd, 1) := by decide +kernel
theorem dL_law_1339 : decode cL_law 1339 = .ok (.iaload, 1) := by decide +kernel
theorem dL_law_1340 : decode cL_law 1340 = .ok (.invokevirtual 169, 3) := by decide +kernel
theorem dL_law_1343 : decode cL_law 1343 = .ok (.if_icmp .eq 94, 3) := by decide +kernel
theorem dL_law_1346 : decode cL_law 1346 = .ok (.iconst 0, 1) := by decide +kernel
theorem dL_law_1347 : decode cL_law 1347 = .ok (.ireturn, 1) := by decide +kernel
theorem dL_law_1348 : decode cL_law 1348 = .ok (.aload_n 1, 1) := by decide +kernel
theorem dL_law_1349 : decode cL_law 1349 = .ok (.aload_n 0, 1) := by decide +kernel
theorem dL_law_1350 : decode cL_law 1350 = .ok (.iload_n 3, 1) := by decide +kernel
theorem dL_law_1351 : decode cL_law 1351 = .ok (.iconst 1, 1) := by decide +kernel
theorem dL_law_1352 : decode cL_law 1352 = .ok (.iadd, 1) := by decide +kernel
theorem dL_law_1353 : decode cL_law 1353 = .ok (.iaload, 1) := by decide +kernel
theorem dL_law_1354 : decode cL_law 1354 = .ok (.aload_n 0, 1) := by decide +kernel
theorem dL_law_1355 : decode cL_law 1355 = .ok (.iload_n 3, 1) := by decide +kernel
theorem dL_law_1356 : decode cL_law 1356 = .ok (.iconst 2, 1) := by decide +kernel
theorem dL_law_1357 : decode cL_law 1357 = .ok (.iadd, 1) := by decide +kernel
theorem dL_law_1358 : decode cL_law 1358 = .ok (.iaload, 1) := by decide +kernel
theorem dL_law_1359 : decode cL_law 1359 = .ok (.aload_n 0, 1) := by decide +kernel
theorem dL_law_1360 : decode cL_law 1360 = .ok (.iload_n 3, 1) := by decide +kernel
theorem dL_law_1361 : decode cL_law 1361 = .ok (.iconst 3, 1) := by decide +kernel
theorem dL_law_1362 : decode cL_law 1362 = .ok (.iadd, 1) := by decide +kernel
theorem dL_law_1363 : decode cL_law 1363 = .ok (.iaload, 1) := by decide +kernel
theorem dL_law_1364 : decode cL_law 1364 = .ok (.aload_n 0, 1) := by decide +kernel
theorem dL_law_1365 : decode cL_law 1365 = .ok (.iload_n 3, 1) := by decide +kernel
theorem dL_law_1366 : decode cL_law 1366 = .ok (.iconst 4, 1) := by decide +kernel
theorem dL_law_1367 : decode cL_law 1367 = .ok (.iadd, 1) := by decide +kernel
theorem dL_law_1368 : decode cL_law 1368 = .ok (.iaload, 1) := by decide +kernel
theorem dL_law_1369 : decode cL_law 1369 = .ok (.invokevirtual 170, 3) := by decide +kernel
theorem dL_law_1372 : decode cL_law 1372 = .ok (.aload_n 2, 1) := by decide +kernel
theorem dL_law_1373 : decode cL_law 1373 = .ok (.aload_n 0, 1) := by decide +kernel
theorem dL_law_1374 : decode cL_law 1374 = .ok (.iload_n 3, 1) := by decide +kernel
theorem dL_law_1375 : decode cL_law 1375 = .ok (.iconst 1, 1) := by decide +kernel
theorem dL_law_1376 : decode cL_law 1376 = .ok (.iadd, 1) := by decide +kernel
theorem dL_law_1377 : decode cL_law 1377 = .ok (.iaload, 1) := by decide +kernel
theorem dL_law_1378 : decode cL_law 1378 = .ok (.aload_n 0, 1) := by decide +kernel
theorem dL_law_1379 : decode cL_law 1379 = .ok (.iload_n 3, 1) := by decide +kernel
theorem dL_law_1380 : decode cL_law 1380 = .ok (.iconst 2, 1) := by decide +kernel
theorem dL_law_1381 : decode cL_law 1381 = .ok (.iadd, 1) := by decide +kernel
theorem dL_law_1382 : decode cL_law 1382 = .ok (.iaload, 1) := by decide +kernel
theorem dL_law_1383 : decode cL_law 1383 = .ok (.aload_n 0, 1) := by decide +kernel
theorem dL_law_1384 : decode cL_law 1384 = .ok (.iload_n 3, 1) := by decide +kernel
theorem dL_law_1385 : decode cL_law 1385 = .ok (.iconst 3, 1) := by decide +kernel
theorem dL_law_1386 : decode cL_law 1386 = .ok (.iadd, 1) := by decide +kernel
theorem dL_law_1387 : decode cL_law 1387 = .ok (.iaload, 1) := by decide +kernel
theorem dL_law_1388 : decode cL_law 1388 = .ok (.aload_n 0, 1) := by decide +kernel
theorem dL_law_1389 : decode cL_law 1389 = .ok (.iload_n 3, 1) := by decide +kernel
theorem dL_law_1390 : decode cL_law 1390 = .ok (.iconst 4, 1) := by decide +kernel
theorem dL_law_1391 : decode cL_law 1391 = .ok (.iadd, 1) := by decide +kernel
theorem dL_law_1392 : decode cL_law 1392 = .ok (.iaload, 1) := by decide +kernel
theorem dL_law_1393 : decode cL_law 1393 = .ok (.invokevirtual 174, 3) := by decide +kernel
theorem dL_law_1396 : decode cL_law 1396 = .ok (.if_icmp .eq 41, 3) := by decide +kernel
theorem dL_law_1399 : decode cL_law 1399 = .ok (.iconst 0, 1) := by decide +kernel
theorem dL_law_1400 : decode cL_law 1400 = .ok (.ireturn, 1) := by decide +kernel
theorem dL_law_1401 : decode cL_law 1401 = .ok (.aload_n 1, 1) := by decide +kernel
theorem dL_law_1402 : decode cL_law 1402 = .ok (.invokevirtual 175, 3) := by decide +kernel
theorem dL_law_1405 : decode cL_law 1405 = .ok (.aload_n 2, 1) := by decide +kernel
theorem dL_law_1406 : decode cL_law 1406 = .ok (.invokevirtual 178, 3) := by decide +kernel
theorem dL_law_1409 : decode cL_law 1409 = .ok (.if_icmp .eq 28, 3) := by decide +kernel
theorem dL_law_1412 : decode cL_law 1412 = .ok (.iconst 0, 1) := by decide +kernel
theorem dL_law_1413 : decode cL_law 1413 = .ok (.ireturn, 1) := by decide +kernel
theorem dL_law_1414 : decode cL_law 1414 = .ok (.aload_n 1, 1) := by decide +kernel
theorem dL_law_1415 : decode cL_law 1415 = .ok (.aload_n 0, 1) := by decide +kernel
theorem dL_law_1416 : decode cL_law 1416 = .ok (.iload_n 3, 1) := by decide +kernel
theorem dL_law_1417 : decode cL_law 1417 = .ok (.iconst 1, 1) := by decide +kernel
theorem dL_law_1418 : decode cL_law 1418 = .ok (.iadd, 1) := by decide +kernel
theorem dL_law_1419 : decode cL_law 1419 = .ok (.iaload, 1) := by decide +kernel
theorem dL_law_1420 : decode cL_law 1420 = .ok (.invokevirtual 179, 3) := by decide +kernel
theorem dL_law_1423 : decode cL_law 1423 = .ok (.aload_n 2, 1) := by decide +kernel
theorem dL_law_1424 : decode cL_law 1424 = .ok (.aload_n 0, 1) := by decide +kernel
theorem dL_law_1425 : decode cL_law 1425 = .ok (.iload_n 3, 1) := by decide +kernel
theorem dL_law_1426 : decode cL_law 1426 = .ok (.iconst 1, 1) := by decide +kernel
theorem dL_law_1427 : decode cL_law 1427 = .ok (.iadd, 1) := by decide +kernel
theorem dL_law_1428 : decode cL_law 1428 = .ok (.iaload, 1) := by decide +kernel
theorem dL_law_1429 : decode cL_law 1429 = .ok (.invokevirtual 182, 3) := by decide +kernel
theorem dL_law_1432 : decode cL_law 1432 = .ok (.if_icmp .eq 5, 3) := by decide +kernel
theorem dL_law_1435 : decode cL_law 1435 = .ok (.iconst 0, 1) := by decide +kernel
theorem dL_law_1436 : decode cL_law 1436 = .ok (.ireturn, 1) := by decide +kernel
theorem dL_law_1437 : decode cL_law 1437 = .ok (.iinc 3 5, 3) := by decide +kernel
theorem dL_law_1440 : decode cL_law 1440 = .ok (.goto (-1422), 3) := by decide +kernel
theorem dL_law_1443 : decode cL_law 1443 = .ok (.iconst 1, 1) := by decide +kernel
theorem dL_law_1444 : decode cL_law 1444 = .ok (.ireturn, 1) := by decide +kernel
end
section
/-! THE BASE: one judgement 'fw_At' for a method of a system whose cells are fixed, its ints a memory; a row an instruction -/
abbrev Mem : Type := Nat → Nat → Int32
def setc (σ : Mem) (c : Nat) (f : Nat → Int32) : Mem := fun k => if k = c then f else σ k
def up2 (σ : Mem) (c i : Nat) (v : Int32) : Mem := setc σ c (upd (σ c) i v)
/-- the words that may be used at any call -/
def TT : List Cond := lw_tbl.filter goodWord
theorem mTT {w : Cond} (i : Nat) (h : lw_tbl[i]? = some w) (hg : goodWord w = true) : w ∈ TT := List.mem_filter.mpr ⟨List.mem_of_getElem? h, hg⟩
theorem mTTs {ws : List Cond} (ps : List Nat) (hp : ws = ps.filterMap (fun i => lw_tbl[i]?)) (h : ws.all goodWord = true) : ∀ w ∈ ws, w ∈ TT := by
  intro w hw
  have h1 := List.all_eq_true.mp h w hw
  rw [hp] at hw
  obtain ⟨i, -, hi⟩ := List.mem_filterMap.mp hw
  exact List.mem_filter.mpr ⟨List.mem_of_getElem? hi, h1⟩
theorem TT_good : GoodIn TT TT := fun w h => ⟨h, good_of_word (List.mem_filter.mp h).2⟩
def fw_wd (y : MethodName) (cc : ByteArray) (nL : Nat) (ret : Option FieldType) : List Cond := .code y cc nL ret :: TT
theorem fw_wd_good {y : MethodName} {cc : ByteArray} {nL : Nat} {ret : Option FieldType} (h : Cond.code y cc nL ret ∈ TT) : GoodIn TT (fw_wd y cc nL ret) := fun w hw => (List.mem_cons.mp hw).elim (fun e => e ▸ TT_good _ h) (fun q => TT_good w q)
/-- a system's world: classes' numbers, array classes, how many cells, their addresses, what each holds by its ints, what else holds of the tables and the rest of the heap -/
abbrev Gw : Type := va_G × List (ClassId × FieldType) × Nat × (Nat → Nat) × (Nat → (Nat → Int32) → va_E) × (State → Prop)
def gD (G : Gw) : va_G := G.1
def gT (G : Gw) : List (ClassId × FieldType) := G.2.1
def gN (G : Gw) : Nat := G.2.2.1
def gad (G : Gw) : Nat → Nat := G.2.2.2.1
def gsh (G : Gw) : Nat → (Nat → Int32) → va_E := G.2.2.2.2.1
def gkb (G : Gw) : State → Prop := G.2.2.2.2.2
def gw (G : Gw) (σ : Mem) : va_W := (List.range (gN G)).map fun k => (gad G k, gsh G k (σ k))
def gA (G : Gw) : Nat → Prop := fun q => ∃ k, k < gN G ∧ q = gad G k
theorem gw_at (G : Gw) (σ : Mem) {k : Nat} (h : k < gN G) : (gw G σ)[k]? = some (gad G k, gsh G k (σ k)) := by
  simp [gw, h]
theorem gw_lt {G : Gw} {σ : Mem} {k : Nat} {q : Nat × va_E} (h : (gw G σ)[k]? = some q) : k < gN G ∧ q = (gad G k, gsh G k (σ k)) := by
  have hk : k < gN G := by
    have := (List.getElem?_eq_some_iff.mp h).1
    simpa [gw] using this
  rw [gw_at G σ hk] at h
  exact ⟨hk, (Option.some.inj h).symm⟩
theorem gw_set (G : Gw) (σ : Mem) {k : Nat} (h : k < gN G) (f : Nat → Int32) : (gw G σ).set k (gad G k, gsh G k f) = gw G (setc σ k f) := by
  apply List.ext_getElem?
  intro j
  by_cases hj : j < gN G
  · rw [gw_at G _ hj]
    by_cases e : k = j
    · subst e
      rw [List.getElem?_set_self (by simpa [gw] using h)]
      simp [setc]
    · rw [List.getElem?_set_ne e, gw_at G σ hj]
      have e2 : ¬ j = k := fun q => e q.symm
      simp [setc, e2]
  · rw [List.getElem?_eq_none (by simp [gw]; omega), List.getElem?_eq_none (by simp [gw]; omega)]
/-- what is needed of a world: addresses apart; what else holds goes with the machine -/
def fw_Gok (G : Gw) : Prop := (∀ i j, i < gN G → j < gN G → gad G i = gad G j → i = j) ∧ (∀ s U : State, gkb G s → s.WarmedH U.vm → s.heap.size ≤ U.heap.size → (∀ q : Nat, q < s.heap.size → ¬ gA G q → U.heap[q]? = s.heap[q]?) → gkb G U) ∧ (∀ s U : State, gkb G s → U.vm = s.vm → U.heap = s.heap → gkb G U)
theorem gw_D {G : Gw} (hG : fw_Gok G) (σ : Mem) : va_D (gA G) (gw G σ) := by
  refine ⟨fun i j p q hi hj e => ?_, fun k q hk => ?_⟩
  · obtain ⟨h1, rfl⟩ := gw_lt hi
    obtain ⟨h2, rfl⟩ := gw_lt hj
    exact hG.1 i j h1 h2 e
  · obtain ⟨h1, rfl⟩ := gw_lt hk
    exact ⟨k, h1, rfl⟩
abbrev Cx : Type := Program × Launch × Env × Room × State × MethodId × Array Value × List Frame × Method × Code
def fw_rm (fr lo : Nat) : Room := { frames := fr, cells := 0, slots := 0, locals := lo }
/-- from pc, with these locals, this stack, this memory, the machine comes to Q -/
def fw_At (X : Cx) (G : Gw) (nL : Nat) (Q : State → Prop) (pc : Nat) (lv : List (Nat × Value)) (st : List Value) (σ : Mem) : Prop :=
  ∀ (H : Heap) (locs : List Loc) (ls : Array Slot), va_P (gD G) vwCl (gw G σ) H → va_S (gA G) X.2.2.2.2.1.heap H locs → lv_has ls nL lv → W X.1 X.2.1 X.2.2.1 X.2.2.2.1 X.2.2.2.2.1 X.2.2.2.2.2.1 X.2.2.2.2.2.2.1 X.2.2.2.2.2.2.2.1 X.2.2.2.2.2.2.2.2.1 X.2.2.2.2.2.2.2.2.2 H locs 0 0 Q (F0 X.2.2.2.2.2.1 pc ls st)
/-- what holds all through a method -/
def fw_Ok (X : Cx) (G : Gw) (cc : ByteArray) (nL : Nat) (own : String) (fr lo : Nat) (ret : Option FieldType) : Prop :=
  CallFix X.1 X.2.2.2.2.2.1 X.2.2.2.2.2.2.2.2.2 cc nL X.2.2.2.2.1 X.2.2.2.2.2.2.1 TT own ∧ va_K (gD G) vwCl (gT G) X.2.2.2.2.1 ∧ gkb G X.2.2.2.2.1 ∧ X.2.2.2.1 = fw_rm fr lo ∧ X.2.2.2.2.2.2.2.2.1.sig.returnType = ret ∧ X.2.2.2.2.2.2.2.2.1.locks = false ∧ fw_Gok G
/-- the world at a call and at a return -/
def fw_WB (G : Gw) (σ : Mem) (U : State) : Prop := va_P (gD G) vwCl (gw G σ) U.heap ∧ va_K (gD G) vwCl (gT G) U ∧ gkb G U
theorem fw_WB.blind {G : Gw} (hG : fw_Gok G) (σ : Mem) (As : List Value) : FrameBlind (va_Pc As (fw_WB G σ)) := by
  intro a U g mk q
  obtain ⟨q0, qP, qK, qb⟩ := q
  exact ⟨q0, qP, va_K.moved (u := U) (U := U.calling g mk a) (Vm.Alike.refl U.vm) qK, hG.2.2 U _ qb rfl rfl⟩
def fw_CI (l : Launch) (G : Gw) (y : MethodName) (cc : ByteArray) (nL : Nat) (ret : FieldType) (fr lo : Nat) (As : List Value) (σ : Mem) (post : Int32 → Mem → Prop) : Prop := Met l y (fw_wd y cc nL (some ret)) (fw_rm fr lo) (va_Pc As (fw_WB G σ)) (va_Qi post (fw_WB G) (gA G)) 0 0 (gA G)
def fw_CL (l : Launch) (G : Gw) (y : MethodName) (cc : ByteArray) (nL : Nat) (fr lo : Nat) (As : List Value) (σ : Mem) (post : Int64 → Mem → Prop) : Prop := Met l y (fw_wd y cc nL (some .long)) (fw_rm fr lo) (va_Pc As (fw_WB G σ)) (va_Ql post (fw_WB G) (gA G)) 0 0 (gA G)
def fw_CV (l : Launch) (G : Gw) (y : MethodName) (cc : ByteArray) (nL : Nat) (fr lo : Nat) (As : List Value) (σ : Mem) (post : Mem → Prop) : Prop := Met l y (fw_wd y cc nL none) (fw_rm fr lo) (va_Pc As (fw_WB G σ)) (va_Qv post (fw_WB G) (gA G)) 0 0 (gA G)
def fw_QI (X : Cx) (G : Gw) (post : Int32 → Mem → Prop) : State → Prop := MQ X.2.2.2.2.2.2.2.1 (va_Qi post (fw_WB G) (gA G)) X.2.2.2.2.2.2.1 X.2.2.2.2.1 0 0 (gA G)
def fw_QL (X : Cx) (G : Gw) (post : Int64 → Mem → Prop) : State → Prop := MQ X.2.2.2.2.2.2.2.1 (va_Ql post (fw_WB G) (gA G)) X.2.2.2.2.2.2.1 X.2.2.2.2.1 0 0 (gA G)
def fw_QV (X : Cx) (G : Gw) (post : Mem → Prop) : State → Prop := MQ X.2.2.2.2.2.2.2.1 (va_Qv post (fw_WB G) (gA G)) X.2.2.2.2.2.2.1 X.2.2.2.2.1 0 0 (gA G)
section OF
variable {l : Launch} {G : Gw} {y : MethodName} {cc : ByteArray} {nL fr lo : Nat} {ret : FieldType} {As : List Value} {σ : Mem}
theorem fw_ofI {post : Int32 → Mem → Prop} (hG : fw_Gok G) (hy : plainName y.cls = true) (hlen : (lg_sl As).length ≤ nL) (body : ∀ X : Cx, fw_Ok X G cc nL y.cls fr lo (some ret) → fw_At X G nL (fw_QI X G post) 0 (lv_args 0 As) [] σ) : fw_CI l G y cc nL ret fr lo As σ post := by
  refine Met.ofW (cc := cc) (maxL := nL) (ret := some ret) hy rfl ?_
  intro p e s m args below meth c s₁ B hml hv
  obtain ⟨rfl, hP, hK, hkb⟩ := hv
  have hts := atoms_spec (ws := fw_wd y cc nL (some ret)) B.pre
  rw [lg_entry_eq]
  exact body (p, l, e, fw_rm fr lo, s, m, As.toArray, below, meth, c) ⟨⟨B.exec, B.bytes, hml, findClass_of_methodNamed B.named, fun w h => hts w (List.mem_cons_of_mem _ h)⟩, hK, hkb, rfl, B.returns, B.notSynchronized, hG⟩ s.heap [] _ hP va_S.rf (lv_entry As hlen)
theorem fw_ofL {post : Int64 → Mem → Prop} (hG : fw_Gok G) (hy : plainName y.cls = true) (hlen : (lg_sl As).length ≤ nL) (body : ∀ X : Cx, fw_Ok X G cc nL y.cls fr lo (some .long) → fw_At X G nL (fw_QL X G post) 0 (lv_args 0 As) [] σ) : fw_CL l G y cc nL fr lo As σ post := by
  refine Met.ofW (cc := cc) (maxL := nL) (ret := some .long) hy rfl ?_
  intro p e s m args below meth c s₁ B hml hv
  obtain ⟨rfl, hP, hK, hkb⟩ := hv
  have hts := atoms_spec (ws := fw_wd y cc nL (some .long)) B.pre
  rw [lg_entry_eq]
  exact body (p, l, e, fw_rm fr lo, s, m, As.toArray, below, meth, c) ⟨⟨B.exec, B.bytes, hml, findClass_of_methodNamed B.named, fun w h => hts w (List.mem_cons_of_mem _ h)⟩, hK, hkb, rfl, B.returns, B.notSynchronized, hG⟩ s.heap [] _ hP va_S.rf (lv_entry As hlen)
theorem fw_ofV {post : Mem → Prop} (hG : fw_Gok G) (hy : plainName y.cls = true) (hlen : (lg_sl As).length ≤ nL) (body : ∀ X : Cx, fw_Ok X G cc nL y.cls fr lo none → fw_At X G nL (fw_QV X G post) 0 (lv_args 0 As) [] σ) : fw_CV l G y cc nL fr lo As σ post := by
  refine Met.ofW (cc := cc) (maxL := nL) (ret := none) hy rfl ?_
  intro p e s m args below meth c s₁ B hml hv
  obtain ⟨rfl, hP, hK, hkb⟩ := hv
  have hts := atoms_spec (ws := fw_wd y cc nL none) B.pre
  rw [lg_entry_eq]
  exact body (p, l, e, fw_rm fr lo, s, m, As.toArray, below, meth, c) ⟨⟨B.exec, B.bytes, hml, findClass_of_methodNamed B.named, fun w h => hts w (List.mem_cons_of_mem _ h)⟩, hK, hkb, rfl, B.returns, B.notSynchronized, hG⟩ s.heap [] _ hP va_S.rf (lv_entry As hlen)
end OF
/-- a boolean that is one -/
def isB (v : Int32) : Prop := narrow .boolean (.int v) = .int v
theorem isB_0 : isB 0 := by unfold isB; decide
theorem isB_1 : isB 1 := by unfold isB; decide
section ROWS
variable {X : Cx} {G : Gw} {cc : ByteArray} {nL : Nat} {own : String} {fr lo : Nat} {ret : Option FieldType} {Q : State → Prop} {pc : Nat} {lv lv' : List (Nat × Value)} {st : List Value} {σ : Mem}
theorem fw_sub (ks : List Nat) (h : lv_pick lv ks = lv') (kk : fw_At X G nL Q pc lv' st σ) : fw_At X G nL Q pc lv st σ := fun H locs ls hP hS hl => kk H locs ls hP hS (lv_sub hl ks h)
theorem fw_pc {pc' : Nat} (h : pc = pc') (kk : fw_At X G nL Q pc' lv st σ) : fw_At X G nL Q pc lv st σ := h ▸ kk
theorem fr_iconst (O : fw_Ok X G cc nL own fr lo ret) {n : Int} {v : Int32} (hdg : decode cc pc = .ok (.iconst n, 1)) (hv : Int32.ofInt n = v) (kk : fw_At X G nL Q (pc + 1) lv (.int v :: st) σ) : fw_At X G nL Q pc lv st σ := fun H locs ls hP hS hl => lv_iconst O.1.1 O.1.2.1 hdg hv (kk H locs ls hP hS hl)
theorem fr_bipush (O : fw_Ok X G cc nL own fr lo ret) {n : Int} {v : Int32} (hdg : decode cc pc = .ok (.bipush n, 2)) (hv : (Int8.ofInt n).toInt32 = v) (kk : fw_At X G nL Q (pc + 2) lv (.int v :: st) σ) : fw_At X G nL Q pc lv st σ := fun H locs ls hP hS hl => lv_bipush O.1.1 O.1.2.1 hdg hv (kk H locs ls hP hS hl)
theorem fr_sipush (O : fw_Ok X G cc nL own fr lo ret) {n : Int} {v : Int32} (hdg : decode cc pc = .ok (.sipush n, 3)) (hv : (Int16.ofInt n).toInt32 = v) (kk : fw_At X G nL Q (pc + 3) lv (.int v :: st) σ) : fw_At X G nL Q pc lv st σ := fun H locs ls hP hS hl => lv_sipush O.1.1 O.1.2.1 hdg hv (kk H locs ls hP hS hl)
theorem fr_lconst (O : fw_Ok X G cc nL own fr lo ret) {n : Fin 2} {v : Int64} (hdg : decode cc pc = .ok (.lconst n, 1)) (hv : Int64.ofNat (n : Nat) = v) (kk : fw_At X G nL Q (pc + 1) lv (.long v :: st) σ) : fw_At X G nL Q pc lv st σ := fun H locs ls hP hS hl => lv_lconst O.1.1 O.1.2.1 hdg hv (kk H locs ls hP hS hl)
theorem fr_ldc (O : fw_Ok X G cc nL own fr lo ret) {index : Nat} {v : Int32} (hm : Cond.constant own index v ∈ TT) (hdg : decode cc pc = .ok (.ldc index, 2)) (kk : fw_At X G nL Q (pc + 2) lv (.int v :: st) σ) : fw_At X G nL Q pc lv st σ := fun H locs ls hP hS hl => lv_ldc O.1.1 O.1.2.1 O.1.2.2.2.1 (O.1.2.2.2.2 _ hm) hdg (kk H locs ls hP hS hl)
theorem fr_ldcw (O : fw_Ok X G cc nL own fr lo ret) {index : Nat} {v : Int32} (hm : Cond.constant own index v ∈ TT) (hdg : decode cc pc = .ok (.ldc_w index, 3)) (kk : fw_At X G nL Q (pc + 3) lv (.int v :: st) σ) : fw_At X G nL Q pc lv st σ := fun H locs ls hP hS hl => lv_ldcw O.1.1 O.1.2.1 O.1.2.2.2.1 (O.1.2.2.2.2 _ hm) hdg (kk H locs ls hP hS hl)
theorem fr_ldc2 (O : fw_Ok X G cc nL own fr lo ret) {index : Nat} {v : Int64} (hm : Cond.constantLong own index v ∈ TT) (hdg : decode cc pc = .ok (.ldc2_w index, 3)) (kk : fw_At X G nL Q (pc + 3) lv (.long v :: st) σ) : fw_At X G nL Q pc lv st σ := fun H locs ls hP hS hl => lv_ldc2 O.1.1 O.1.2.1 O.1.2.2.2.1 (O.1.2.2.2.2 _ hm) hdg (kk H locs ls hP hS hl)
theorem fr_iload_n (O : fw_Ok X G cc nL own fr lo ret) (q : Nat) {k : Fin 4} {i : Nat} {x : Int32} (hdg : decode cc pc = .ok (.iload_n k, 1)) (hi : (k : Nat) = i) (hk : lv[q]? = some (i, .int x)) (kk : fw_At X G nL Q (pc + 1) lv (.int x :: st) σ) : fw_At X G nL Q pc lv st σ := fun H locs ls hP hS hl => lv_iload_n O.1.1 O.1.2.1 hdg hi (lv_at hl q hk) (kk H locs ls hP hS hl)
theorem fr_iload (O : fw_Ok X G cc nL own fr lo ret) (q : Nat) {i : Nat} {x : Int32} (hdg : decode cc pc = .ok (.iload i, 2)) (hk : lv[q]? = some (i, .int x)) (kk : fw_At X G nL Q (pc + 2) lv (.int x :: st) σ) : fw_At X G nL Q pc lv st σ := fun H locs ls hP hS hl => lv_iload O.1.1 O.1.2.1 hdg (lv_at hl q hk) (kk H locs ls hP hS hl)
theorem fr_lload_n (O : fw_Ok X G cc nL own fr lo ret) (q : Nat) {k : Fin 4} {i : Nat} {x : Int64} (hdg : decode cc pc = .ok (.lload_n k, 1)) (hi : (k : Nat) = i) (hk : lv[q]? = some (i, .long x)) (kk : fw_At X G nL Q (pc + 1) lv (.long x :: st) σ) : fw_At X G nL Q pc lv st σ := fun H locs ls hP hS hl => lv_lload_n O.1.1 O.1.2.1 hdg hi (lv_at hl q hk) (kk H locs ls hP hS hl)
theorem fr_lload (O : fw_Ok X G cc nL own fr lo ret) (q : Nat) {i : Nat} {x : Int64} (hdg : decode cc pc = .ok (.lload i, 2)) (hk : lv[q]? = some (i, .long x)) (kk : fw_At X G nL Q (pc + 2) lv (.long x :: st) σ) : fw_At X G nL Q pc lv st σ := fun H locs ls hP hS hl => lv_lload O.1.1 O.1.2.1 hdg (lv_at hl q hk) (kk H locs ls hP hS hl)
theorem fr_aload_n (O : fw_Ok X G cc nL own fr lo ret) (q : Nat) {k : Fin 4} {i : Nat} {x : Nat} (hdg : decode cc pc = .ok (.aload_n k, 1)) (hi : (k : Nat) = i) (hk : lv[q]? = some (i, .ref x)) (kk : fw_At X G nL Q (pc + 1) lv (.ref x :: st) σ) : fw_At X G nL Q pc lv st σ := fun H locs ls hP hS hl => lv_aload_n O.1.1 O.1.2.1 hdg hi (lv_at hl q hk) (kk H locs ls hP hS hl)
theorem fr_aload (O : fw_Ok X G cc nL own fr lo ret) (q : Nat) {i : Nat} {x : Nat} (hdg : decode cc pc = .ok (.aload i, 2)) (hk : lv[q]? = some (i, .ref x)) (kk : fw_At X G nL Q (pc + 2) lv (.ref x :: st) σ) : fw_At X G nL Q pc lv st σ := fun H locs ls hP hS hl => lv_aload O.1.1 O.1.2.1 hdg (lv_at hl q hk) (kk H locs ls hP hS hl)

theorem fr_iadd (O : fw_Ok X G cc nL own fr lo ret) {x y : Int32} (hdg : decode cc pc = .ok (.iadd, 1)) (kk : fw_At X G nL Q (pc + 1) lv (.int (x + y) :: st) σ) : fw_At X G nL Q pc lv (.int y :: .int x :: st) σ := fun H locs ls hP hS hl => lv_iadd O.1.1 O.1.2.1 hdg (kk H locs ls hP hS hl)
theorem fr_isub (O : fw_Ok X G cc nL own fr lo ret) {x y : Int32} (hdg : decode cc pc = .ok (.isub, 1)) (kk : fw_At X G nL Q (pc + 1) lv (.int (x - y) :: st) σ) : fw_At X G nL Q pc lv (.int y :: .int x :: st) σ := fun H locs ls hP hS hl => lv_isub O.1.1 O.1.2.1 hdg (kk H locs ls hP hS hl)
theorem fr_imul (O : fw_Ok X G cc nL own fr lo ret) {x y : Int32} (hdg : decode cc pc = .ok (.imul, 1)) (kk : fw_At X G nL Q (pc + 1) lv (.int (x * y) :: st) σ) : fw_At X G nL Q pc lv (.int y :: .int x :: st) σ := fun H locs ls hP hS hl => lv_imul O.1.1 O.1.2.1 hdg (kk H locs ls hP hS hl)
theorem fr_iand (O : fw_Ok X G cc nL own fr lo ret) {x y : Int32} (hdg : decode cc pc = .ok (.iand, 1)) (kk : fw_At X G nL Q (pc + 1) lv (.int (x &&& y) :: st) σ) : fw_At X G nL Q pc lv (.int y :: .int x :: st) σ := fun H locs ls hP hS hl => lv_iand O.1.1 O.1.2.1 hdg (kk H locs ls hP hS hl)
theorem fr_ior (O : fw_Ok X G cc nL own fr lo ret) {x y : Int32} (hdg : decode cc pc = .ok (.ior, 1)) (kk : fw_At X G nL Q (pc + 1) lv (.int (x ||| y) :: st) σ) : fw_At X G nL Q pc lv (.int y :: .int x :: st) σ := fun H locs ls hP hS hl => lv_ior O.1.1 O.1.2.1 hdg (kk H locs ls hP hS hl)
theorem fr_ixor (O : fw_Ok X G cc nL own fr lo ret) {x y : Int32} (hdg : decode cc pc = .ok (.ixor, 1)) (kk : fw_At X G nL Q (pc + 1) lv (.int (x ^^^ y) :: st) σ) : fw_At X G nL Q pc lv (.int y :: .int x :: st) σ := fun H locs ls hP hS hl => lv_ixor O.1.1 O.1.2.1 hdg (kk H locs ls hP hS hl)
theorem fr_ishl (O : fw_Ok X G cc nL own fr lo ret) {x y : Int32} (hdg : decode cc pc = .ok (.ishl, 1)) (kk : fw_At X G nL Q (pc + 1) lv (.int (x <<< (y &&& 31)) :: st) σ) : fw_At X G nL Q pc lv (.int y :: .int x :: st) σ := fun H locs ls hP hS hl => lv_ishl O.1.1 O.1.2.1 hdg (kk H locs ls hP hS hl)
theorem fr_ishr (O : fw_Ok X G cc nL own fr lo ret) {x y : Int32} (hdg : decode cc pc = .ok (.ishr, 1)) (kk : fw_At X G nL Q (pc + 1) lv (.int (x >>> (y &&& 31)) :: st) σ) : fw_At X G nL Q pc lv (.int y :: .int x :: st) σ := fun H locs ls hP hS hl => lv_ishr O.1.1 O.1.2.1 hdg (kk H locs ls hP hS hl)
theorem fr_idiv (O : fw_Ok X G cc nL own fr lo ret) {x y : Int32} (hne : ¬ y = 0) (hdg : decode cc pc = .ok (.idiv, 1)) (kk : fw_At X G nL Q (pc + 1) lv (.int (x / y) :: st) σ) : fw_At X G nL Q pc lv (.int y :: .int x :: st) σ := fun H locs ls hP hS hl => lv_idiv O.1.1 O.1.2.1 hdg hne (kk H locs ls hP hS hl)
theorem fr_irem (O : fw_Ok X G cc nL own fr lo ret) {x y : Int32} (hne : ¬ y = 0) (hdg : decode cc pc = .ok (.irem, 1)) (kk : fw_At X G nL Q (pc + 1) lv (.int (x - x / y * y) :: st) σ) : fw_At X G nL Q pc lv (.int y :: .int x :: st) σ := fun H locs ls hP hS hl => lv_irem O.1.1 O.1.2.1 hdg hne (kk H locs ls hP hS hl)
theorem fr_iushr (O : fw_Ok X G cc nL own fr lo ret) {x y : Int32} (hdg : decode cc pc = .ok (.iushr, 1)) (kk : fw_At X G nL Q (pc + 1) lv (.int (x.toUInt32 >>> (y.toUInt32 &&& Int32.toUInt32 31)).toInt32 :: st) σ) : fw_At X G nL Q pc lv (.int y :: .int x :: st) σ := fun H locs ls hP hS hl => lv_iushr O.1.1 O.1.2.1 hdg rfl (kk H locs ls hP hS hl)
theorem fr_ladd (O : fw_Ok X G cc nL own fr lo ret) {x y : Int64} (hdg : decode cc pc = .ok (.ladd, 1)) (kk : fw_At X G nL Q (pc + 1) lv (.long (x + y) :: st) σ) : fw_At X G nL Q pc lv (.long y :: .long x :: st) σ := fun H locs ls hP hS hl => lv_ladd O.1.1 O.1.2.1 hdg (kk H locs ls hP hS hl)
theorem fr_lsub (O : fw_Ok X G cc nL own fr lo ret) {x y : Int64} (hdg : decode cc pc = .ok (.lsub, 1)) (kk : fw_At X G nL Q (pc + 1) lv (.long (x - y) :: st) σ) : fw_At X G nL Q pc lv (.long y :: .long x :: st) σ := fun H locs ls hP hS hl => lv_lsub O.1.1 O.1.2.1 hdg (kk H locs ls hP hS hl)
theorem fr_lmul (O : fw_Ok X G cc nL own fr lo ret) {x y : Int64} (hdg : decode cc pc = .ok (.lmul, 1)) (kk : fw_At X G nL Q (pc + 1) lv (.long (x * y) :: st) σ) : fw_At X G nL Q pc lv (.long y :: .long x :: st) σ := fun H locs ls hP hS hl => lv_lmul O.1.1 O.1.2.1 hdg (kk H locs ls hP hS hl)
theorem fr_ldiv (O : fw_Ok X G cc nL own fr lo ret) {x y : Int64} (hne : ¬ y = 0) (hdg : decode cc pc = .ok (.ldiv, 1)) (kk : fw_At X G nL Q (pc + 1) lv (.long (x / y) :: st) σ) : fw_At X G nL Q pc lv (.long y :: .long x :: st) σ := fun H locs ls hP hS hl => lv_ldiv O.1.1 O.1.2.1 hdg hne (kk H locs ls hP hS hl)
theorem fr_lrem (O : fw_Ok X G cc nL own fr lo ret) {x y : Int64} (hne : ¬ y = 0) (hdg : decode cc pc = .ok (.lrem, 1)) (kk : fw_At X G nL Q (pc + 1) lv (.long (x - x / y * y) :: st) σ) : fw_At X G nL Q pc lv (.long y :: .long x :: st) σ := fun H locs ls hP hS hl => lv_lrem O.1.1 O.1.2.1 hdg hne (kk H locs ls hP hS hl)
theorem fr_lcmp (O : fw_Ok X G cc nL own fr lo ret) {x y : Int64} (hdg : decode cc pc = .ok (.lcmp, 1)) (kk : fw_At X G nL Q (pc + 1) lv (.int (lg_cmp x y) :: st) σ) : fw_At X G nL Q pc lv (.long y :: .long x :: st) σ := fun H locs ls hP hS hl => W.lcmp O.1.1 O.1.2.1 hdg (kk H locs ls hP hS hl)
theorem fr_i2l (O : fw_Ok X G cc nL own fr lo ret) {x : Int32} (hdg : decode cc pc = .ok (.i2l, 1)) (kk : fw_At X G nL Q (pc + 1) lv (.long x.toInt64 :: st) σ) : fw_At X G nL Q pc lv (.int x :: st) σ := fun H locs ls hP hS hl => lv_i2l O.1.1 O.1.2.1 hdg rfl (kk H locs ls hP hS hl)
theorem fr_i2b (O : fw_Ok X G cc nL own fr lo ret) {x : Int32} (hdg : decode cc pc = .ok (.i2b, 1)) (kk : fw_At X G nL Q (pc + 1) lv (.int x.toInt8.toInt32 :: st) σ) : fw_At X G nL Q pc lv (.int x :: st) σ := fun H locs ls hP hS hl => lv_i2b O.1.1 O.1.2.1 hdg rfl (kk H locs ls hP hS hl)
theorem fr_i2s (O : fw_Ok X G cc nL own fr lo ret) {x : Int32} (hdg : decode cc pc = .ok (.i2s, 1)) (kk : fw_At X G nL Q (pc + 1) lv (.int x.toInt16.toInt32 :: st) σ) : fw_At X G nL Q pc lv (.int x :: st) σ := fun H locs ls hP hS hl => lv_i2s O.1.1 O.1.2.1 hdg rfl (kk H locs ls hP hS hl)
theorem fr_dup (O : fw_Ok X G cc nL own fr lo ret) {va : Value} (hdg : decode cc pc = .ok (.dup, 1)) (hva : va.category = 1) (kk : fw_At X G nL Q (pc + 1) lv (va :: va :: st) σ) : fw_At X G nL Q pc lv (va :: st) σ := fun H locs ls hP hS hl => lv_dup O.1.1 O.1.2.1 hdg hva (kk H locs ls hP hS hl)
theorem fr_pop (O : fw_Ok X G cc nL own fr lo ret) {va : Value} (hdg : decode cc pc = .ok (.pop, 1)) (hva : va.category = 1) (kk : fw_At X G nL Q (pc + 1) lv st σ) : fw_At X G nL Q pc lv (va :: st) σ := fun H locs ls hP hS hl => lv_pop O.1.1 O.1.2.1 hdg hva (kk H locs ls hP hS hl)
theorem fr_dup2 (O : fw_Ok X G cc nL own fr lo ret) {va vb : Value} (hdg : decode cc pc = .ok (.dup2, 1)) (hva : va.category = 1) (hvb : vb.category = 1) (kk : fw_At X G nL Q (pc + 1) lv (va :: vb :: va :: vb :: st) σ) : fw_At X G nL Q pc lv (va :: vb :: st) σ := fun H locs ls hP hS hl => lv_dup2_11 O.1.1 O.1.2.1 hdg hva hvb (kk H locs ls hP hS hl)
theorem fr_nm {x : Int32} (kk : ∀ y : Int32, y = x → fw_At X G nL Q pc lv (.int y :: st) σ) : fw_At X G nL Q pc lv (.int x :: st) σ := kk x rfl
theorem fr_nml {x : Int64} (kk : ∀ y : Int64, y = x → fw_At X G nL Q pc lv (.long y :: st) σ) : fw_At X G nL Q pc lv (.long x :: st) σ := kk x rfl
theorem fr_istore_n (O : fw_Ok X G cc nL own fr lo ret) (ks : List Nat) {k : Fin 4} {i : Nat} {x : Int32} (hdg : decode cc pc = .ok (.istore_n k, 1)) (hi : (k : Nat) = i) (hn : i < nL) (hp : lv_pick ((i, Value.int x) :: lv.filter (fun q => !(q.1 == i) && !(q.1 + 1 == i && q.2.category == 2))) ks = lv') (kk : fw_At X G nL Q (pc + 1) lv' st σ) : fw_At X G nL Q pc lv (.int x :: st) σ := fun H locs ls hP hS hl => lv_istore_n O.1.1 O.1.2.1 hdg hi hl hn rfl (fun ls' hl' => kk H locs ls' hP hS (lv_sub hl' ks hp))
theorem fr_istore (O : fw_Ok X G cc nL own fr lo ret) (ks : List Nat) {i : Nat} {x : Int32} (hdg : decode cc pc = .ok (.istore i, 2)) (hn : i < nL) (hp : lv_pick ((i, Value.int x) :: lv.filter (fun q => !(q.1 == i) && !(q.1 + 1 == i && q.2.category == 2))) ks = lv') (kk : fw_At X G nL Q (pc + 2) lv' st σ) : fw_At X G nL Q pc lv (.int x :: st) σ := fun H locs ls hP hS hl => lv_istore O.1.1 O.1.2.1 hdg hl hn rfl (fun ls' hl' => kk H locs ls' hP hS (lv_sub hl' ks hp))
theorem fr_lstore_n (O : fw_Ok X G cc nL own fr lo ret) (ks : List Nat) {k : Fin 4} {i : Nat} {x : Int64} (hdg : decode cc pc = .ok (.lstore_n k, 1)) (hi : (k : Nat) = i) (hn : i + 1 < nL) (hp : lv_pick ((i, Value.long x) :: lv.filter (fun q => !(q.1 == i) && (!(q.1 == i + 1) && !(q.1 + 1 == i && q.2.category == 2)))) ks = lv') (kk : fw_At X G nL Q (pc + 1) lv' st σ) : fw_At X G nL Q pc lv (.long x :: st) σ := fun H locs ls hP hS hl => lv_lstore_n O.1.1 O.1.2.1 hdg hi hl hn rfl (fun ls' hl' => kk H locs ls' hP hS (lv_sub hl' ks hp))
theorem fr_lstore (O : fw_Ok X G cc nL own fr lo ret) (ks : List Nat) {i : Nat} {x : Int64} (hdg : decode cc pc = .ok (.lstore i, 2)) (hn : i + 1 < nL) (hp : lv_pick ((i, Value.long x) :: lv.filter (fun q => !(q.1 == i) && (!(q.1 == i + 1) && !(q.1 + 1 == i && q.2.category == 2)))) ks = lv') (kk : fw_At X G nL Q (pc + 2) lv' st σ) : fw_At X G nL Q pc lv (.long x :: st) σ := fun H locs ls hP hS hl => lv_lstore O.1.1 O.1.2.1 hdg hl hn rfl (fun ls' hl' => kk H locs ls' hP hS (lv_sub hl' ks hp))
theorem fr_astore_n (O : fw_Ok X G cc nL own fr lo ret) (ks : List Nat) {k : Fin 4} {i : Nat} {x : Nat} (hdg : decode cc pc = .ok (.astore_n k, 1)) (hi : (k : Nat) = i) (hn : i < nL) (hp : lv_pick ((i, Value.ref x) :: lv.filter (fun q => !(q.1 == i) && !(q.1 + 1 == i && q.2.category == 2))) ks = lv') (kk : fw_At X G nL Q (pc + 1) lv' st σ) : fw_At X G nL Q pc lv (.ref x :: st) σ := fun H locs ls hP hS hl => lv_astore_n O.1.1 O.1.2.1 hdg hi hl hn rfl (fun ls' hl' => kk H locs ls' hP hS (lv_sub hl' ks hp))
theorem fr_astore (O : fw_Ok X G cc nL own fr lo ret) (ks : List Nat) {i : Nat} {x : Nat} (hdg : decode cc pc = .ok (.astore i, 2)) (hn : i < nL) (hp : lv_pick ((i, Value.ref x) :: lv.filter (fun q => !(q.1 == i) && !(q.1 + 1 == i && q.2.category == 2))) ks = lv') (kk : fw_At X G nL Q (pc + 2) lv' st σ) : fw_At X G nL Q pc lv (.ref x :: st) σ := fun H locs ls hP hS hl => lv_astore O.1.1 O.1.2.1 hdg hl hn rfl (fun ls' hl' => kk H locs ls' hP hS (lv_sub hl' ks hp))
theorem fr_iinc (O : fw_Ok X G cc nL own fr lo ret) (q : Nat) (ks : List Nat) {i : Nat} {n : Int} {x w : Int32} {lvF : Int32 → List (Nat × Value)} (hdg : decode cc pc = .ok (.iinc i n, 3)) (hk : lv[q]? = some (i, .int x)) (hw : Int32.ofInt n = w) (hn : i < nL) (hp : ∀ v : Int32, lv_pick ((i, Value.int v) :: lv.filter (fun q => !(q.1 == i) && !(q.1 + 1 == i && q.2.category == 2))) ks = lvF v) (kk : ∀ v : Int32, v = x + w → fw_At X G nL Q (pc + 3) (lvF v) st σ) : fw_At X G nL Q pc lv st σ := fun H locs ls hP hS hl => lv_iinc (v := x + w) O.1.1 O.1.2.1 hdg hl hk (by rw [hw]) hn rfl (fun ls' hl' => kk (x + w) rfl H locs ls' hP hS (lv_sub hl' ks (hp _)))
theorem fr_icmp_eq (O : fw_Ok X G cc nL own fr lo ret) {x y : Int32} {off : Int} {tgt : Nat} (hdg : decode cc pc = .ok (.if_icmp .eq off, 3)) (ht : (pc : Int) + off = (tgt : Int)) (kt : x = y → fw_At X G nL Q tgt lv st σ) (kf : ¬ x = y → fw_At X G nL Q (pc + 3) lv st σ) : fw_At X G nL Q pc lv (.int y :: .int x :: st) σ := fun H locs ls hP hS hl => lv_icmp_eq O.1.1 O.1.2.1 hdg ht (fun z => kt z H locs ls hP hS hl) (fun z => kf z H locs ls hP hS hl)
theorem fr_if_eq (O : fw_Ok X G cc nL own fr lo ret) {x : Int32} {off : Int} {tgt : Nat} (hdg : decode cc pc = .ok (.ifCond .eq off, 3)) (ht : (pc : Int) + off = (tgt : Int)) (kt : x = 0 → fw_At X G nL Q tgt lv st σ) (kf : ¬ x = 0 → fw_At X G nL Q (pc + 3) lv st σ) : fw_At X G nL Q pc lv (.int x :: st) σ := fun H locs ls hP hS hl => lv_if_eq O.1.1 O.1.2.1 hdg ht (fun z => kt z H locs ls hP hS hl) (fun z => kf z H locs ls hP hS hl)
theorem fr_icmp_ne (O : fw_Ok X G cc nL own fr lo ret) {x y : Int32} {off : Int} {tgt : Nat} (hdg : decode cc pc = .ok (.if_icmp .ne off, 3)) (ht : (pc : Int) + off = (tgt : Int)) (kt : ¬ x = y → fw_At X G nL Q tgt lv st σ) (kf : x = y → fw_At X G nL Q (pc + 3) lv st σ) : fw_At X G nL Q pc lv (.int y :: .int x :: st) σ := fun H locs ls hP hS hl => lv_icmp_ne O.1.1 O.1.2.1 hdg ht (fun z => kt z H locs ls hP hS hl) (fun z => kf z H locs ls hP hS hl)
theorem fr_if_ne (O : fw_Ok X G cc nL own fr lo ret) {x : Int32} {off : Int} {tgt : Nat} (hdg : decode cc pc = .ok (.ifCond .ne off, 3)) (ht : (pc : Int) + off = (tgt : Int)) (kt : ¬ x = 0 → fw_At X G nL Q tgt lv st σ) (kf : x = 0 → fw_At X G nL Q (pc + 3) lv st σ) : fw_At X G nL Q pc lv (.int x :: st) σ := fun H locs ls hP hS hl => lv_if_ne O.1.1 O.1.2.1 hdg ht (fun z => kt z H locs ls hP hS hl) (fun z => kf z H locs ls hP hS hl)
theorem fr_icmp_lt (O : fw_Ok X G cc nL own fr lo ret) {x y : Int32} {off : Int} {tgt : Nat} (hdg : decode cc pc = .ok (.if_icmp .lt off, 3)) (ht : (pc : Int) + off = (tgt : Int)) (kt : x < y → fw_At X G nL Q tgt lv st σ) (kf : ¬ x < y → fw_At X G nL Q (pc + 3) lv st σ) : fw_At X G nL Q pc lv (.int y :: .int x :: st) σ := fun H locs ls hP hS hl => lv_icmp_lt O.1.1 O.1.2.1 hdg ht (fun z => kt z H locs ls hP hS hl) (fun z => kf z H locs ls hP hS hl)
theorem fr_if_lt (O : fw_Ok X G cc nL own fr lo ret) {x : Int32} {off : Int} {tgt : Nat} (hdg : decode cc pc = .ok (.ifCond .lt off, 3)) (ht : (pc : Int) + off = (tgt : Int)) (kt : x < 0 → fw_At X G nL Q tgt lv st σ) (kf : ¬ x < 0 → fw_At X G nL Q (pc + 3) lv st σ) : fw_At X G nL Q pc lv (.int x :: st) σ := fun H locs ls hP hS hl => lv_if_lt O.1.1 O.1.2.1 hdg ht (fun z => kt z H locs ls hP hS hl) (fun z => kf z H locs ls hP hS hl)
theorem fr_icmp_ge (O : fw_Ok X G cc nL own fr lo ret) {x y : Int32} {off : Int} {tgt : Nat} (hdg : decode cc pc = .ok (.if_icmp .ge off, 3)) (ht : (pc : Int) + off = (tgt : Int)) (kt : y ≤ x → fw_At X G nL Q tgt lv st σ) (kf : ¬ y ≤ x → fw_At X G nL Q (pc + 3) lv st σ) : fw_At X G nL Q pc lv (.int y :: .int x :: st) σ := fun H locs ls hP hS hl => lv_icmp_ge O.1.1 O.1.2.1 hdg ht (fun z => kt z H locs ls hP hS hl) (fun z => kf z H locs ls hP hS hl)
theorem fr_if_ge (O : fw_Ok X G cc nL own fr lo ret) {x : Int32} {off : Int} {tgt : Nat} (hdg : decode cc pc = .ok (.ifCond .ge off, 3)) (ht : (pc : Int) + off = (tgt : Int)) (kt : 0 ≤ x → fw_At X G nL Q tgt lv st σ) (kf : ¬ 0 ≤ x → fw_At X G nL Q (pc + 3) lv st σ) : fw_At X G nL Q pc lv (.int x :: st) σ := fun H locs ls hP hS hl => lv_if_ge O.1.1 O.1.2.1 hdg ht (fun z => kt z H locs ls hP hS hl) (fun z => kf z H locs ls hP hS hl)
theorem fr_icmp_gt (O : fw_Ok X G cc nL own fr lo ret) {x y : Int32} {off : Int} {tgt : Nat} (hdg : decode cc pc = .ok (.if_icmp .gt off, 3)) (ht : (pc : Int) + off = (tgt : Int)) (kt : y < x → fw_At X G nL Q tgt lv st σ) (kf : ¬ y < x → fw_At X G nL Q (pc + 3) lv st σ) : fw_At X G nL Q pc lv (.int y :: .int x :: st) σ := fun H locs ls hP hS hl => lv_icmp_gt O.1.1 O.1.2.1 hdg ht (fun z => kt z H locs ls hP hS hl) (fun z => kf z H locs ls hP hS hl)
theorem fr_if_gt (O : fw_Ok X G cc nL own fr lo ret) {x : Int32} {off : Int} {tgt : Nat} (hdg : decode cc pc = .ok (.ifCond .gt off, 3)) (ht : (pc : Int) + off = (tgt : Int)) (kt : 0 < x → fw_At X G nL Q tgt lv st σ) (kf : ¬ 0 < x → fw_At X G nL Q (pc + 3) lv st σ) : fw_At X G nL Q pc lv (.int x :: st) σ := fun H locs ls hP hS hl => lv_if_gt O.1.1 O.1.2.1 hdg ht (fun z => kt z H locs ls hP hS hl) (fun z => kf z H locs ls hP hS hl)
theorem fr_icmp_le (O : fw_Ok X G cc nL own fr lo ret) {x y : Int32} {off : Int} {tgt : Nat} (hdg : decode cc pc = .ok (.if_icmp .le off, 3)) (ht : (pc : Int) + off = (tgt : Int)) (kt : x ≤ y → fw_At X G nL Q tgt lv st σ) (kf : ¬ x ≤ y → fw_At X G nL Q (pc + 3) lv st σ) : fw_At X G nL Q pc lv (.int y :: .int x :: st) σ := fun H locs ls hP hS hl => lv_icmp_le O.1.1 O.1.2.1 hdg ht (fun z => kt z H locs ls hP hS hl) (fun z => kf z H locs ls hP hS hl)
theorem fr_if_le (O : fw_Ok X G cc nL own fr lo ret) {x : Int32} {off : Int} {tgt : Nat} (hdg : decode cc pc = .ok (.ifCond .le off, 3)) (ht : (pc : Int) + off = (tgt : Int)) (kt : x ≤ 0 → fw_At X G nL Q tgt lv st σ) (kf : ¬ x ≤ 0 → fw_At X G nL Q (pc + 3) lv st σ) : fw_At X G nL Q pc lv (.int x :: st) σ := fun H locs ls hP hS hl => lv_if_le O.1.1 O.1.2.1 hdg ht (fun z => kt z H locs ls hP hS hl) (fun z => kf z H locs ls hP hS hl)
theorem fr_goto (O : fw_Ok X G cc nL own fr lo ret) {off : Int} {tgt : Nat} (hdg : decode cc pc = .ok (.goto off, 3)) (ht : (pc : Int) + off = (tgt : Int)) (kk : fw_At X G nL Q tgt lv st σ) : fw_At X G nL Q pc lv st σ := fun H locs ls hP hS hl => lv_goto O.1.1 O.1.2.1 hdg ht (kk H locs ls hP hS hl)
theorem fr_tabIn (O : fw_Ok X G cc nL own fr lo ret) {dflt lo1 hi1 : Int} {offs : Array Int} {len : Nat} {x : Int32} {off : Int} {tgt : Nat} (hdg : decode cc pc = .ok (.tableswitch dflt lo1 hi1 offs, len)) (h : ¬ x.toInt < lo1 ∧ ¬ hi1 < x.toInt ∧ offs[(x.toInt - lo1).toNat]? = some off ∧ (pc : Int) + off = (tgt : Int)) (kk : fw_At X G nL Q tgt lv st σ) : fw_At X G nL Q pc lv (.int x :: st) σ := fun H locs ls hP hS hl => lv_tableIn O.1.1 O.1.2.1 hdg h.1 h.2.1 h.2.2.1 h.2.2.2 (kk H locs ls hP hS hl)
theorem fr_tabOut (O : fw_Ok X G cc nL own fr lo ret) {dflt lo1 hi1 : Int} {offs : Array Int} {len : Nat} {x : Int32} {tgt : Nat} (hdg : decode cc pc = .ok (.tableswitch dflt lo1 hi1 offs, len)) (h : x.toInt < lo1 ∨ hi1 < x.toInt) (ht : (pc : Int) + dflt = (tgt : Int)) (kk : fw_At X G nL Q tgt lv st σ) : fw_At X G nL Q pc lv (.int x :: st) σ := fun H locs ls hP hS hl => lv_tableOut O.1.1 O.1.2.1 hdg h ht (kk H locs ls hP hS hl)
theorem fr_look (O : fw_Ok X G cc nL own fr lo ret) {dflt : Int} {ps : Array (Int × Int)} {len : Nat} {x : Int32} {off : Int} {tgt : Nat} (hdg : decode cc pc = .ok (.lookupswitch dflt ps, len)) (hp : (ps.toList.zip (ps.toList.drop 1)).all (fun (a, next) => a.1 < next.1) = true) (ho : Op.lookupswitch.offset ps.toList dflt x.toInt = off) (ht : (pc : Int) + off = (tgt : Int)) (kk : fw_At X G nL Q tgt lv st σ) : fw_At X G nL Q pc lv (.int x :: st) σ := fun H locs ls hP hS hl => lv_lookup O.1.1 O.1.2.1 hdg hp ho ht (kk H locs ls hP hS hl)
theorem fr_iret (O : fw_Ok X G cc nL own fr lo (some .int)) {v : Int32} {post : Int32 → Mem → Prop} (hdg : decode cc pc = .ok (.ireturn, 1)) (h : post v σ) : fw_At X G nL (fw_QI X G post) pc lv [.int v] σ := fun H locs ls hP hS hl => W.iret (v := v) O.1.1 O.1.2.1 O.2.2.2.2.1 (fun t ht hW => ⟨⟨v, σ, rfl, h, by rw [ht]; exact hP, va_K.moved hW.alike O.2.1, O.2.2.2.2.2.2.2.1 _ _ O.2.2.1 hW (by rw [ht]; exact hS.1) (fun q h1 h2 => by rw [ht]; exact hS.2.1 q h1 h2)⟩, hS.F ht⟩) hS.2.2 hdg O.2.2.2.2.2.1
theorem fr_zret (O : fw_Ok X G cc nL own fr lo (some .boolean)) {v : Int32} {post : Int32 → Mem → Prop} (hdg : decode cc pc = .ok (.ireturn, 1)) (hb : isB v) (h : post v σ) : fw_At X G nL (fw_QI X G post) pc lv [.int v] σ := fun H locs ls hP hS hl => W.zret (v := v) O.1.1 O.1.2.1 O.2.2.2.2.1 hb (fun t ht hW => ⟨⟨v, σ, rfl, h, by rw [ht]; exact hP, va_K.moved hW.alike O.2.1, O.2.2.2.2.2.2.2.1 _ _ O.2.2.1 hW (by rw [ht]; exact hS.1) (fun q h1 h2 => by rw [ht]; exact hS.2.1 q h1 h2)⟩, hS.F ht⟩) hS.2.2 hdg O.2.2.2.2.2.1
theorem fr_lret (O : fw_Ok X G cc nL own fr lo (some .long)) {v : Int64} {post : Int64 → Mem → Prop} (hdg : decode cc pc = .ok (.lreturn, 1)) (h : post v σ) : fw_At X G nL (fw_QL X G post) pc lv [.long v] σ := fun H locs ls hP hS hl => W.lret (v := v) O.1.1 O.1.2.1 O.2.2.2.2.1 (fun t ht hW => ⟨⟨v, σ, rfl, h, by rw [ht]; exact hP, va_K.moved hW.alike O.2.1, O.2.2.2.2.2.2.2.1 _ _ O.2.2.1 hW (by rw [ht]; exact hS.1) (fun q h1 h2 => by rw [ht]; exact hS.2.1 q h1 h2)⟩, hS.F ht⟩) hS.2.2 hdg O.2.2.2.2.2.1
theorem fr_vret (O : fw_Ok X G cc nL own fr lo none) {post : Mem → Prop} (hdg : decode cc pc = .ok (.return_, 1)) (h : post σ) : fw_At X G nL (fw_QV X G post) pc lv [] σ := fun H locs ls hP hS hl => W.vret O.1.1 O.1.2.1 O.2.2.2.2.1 (fun t ht hW => ⟨⟨σ, rfl, h, by rw [ht]; exact hP, va_K.moved hW.alike O.2.1, O.2.2.2.2.2.2.2.1 _ _ O.2.2.1 hW (by rw [ht]; exact hS.1) (fun q h1 h2 => by rw [ht]; exact hS.2.1 q h1 h2)⟩, hS.F ht⟩) hS.2.2 hdg O.2.2.2.2.2.1
/-- a class that the worlds know -/
def fw_Cl (ci : Nat) (C : String) (T : u_T) (N : Nat) (ty : Nat → FieldType) : Prop := vwCl[ci]? = some (C, T, N) ∧ (∀ w ∈ u_ws C T N, w ∈ TT) ∧ (∀ k, k < N → parseFieldDescriptor (T k).2.2.1 = some (ty k)) ∧ (∀ a, a < N → ∀ b, b < N → a ≠ b → (T a).2.1 ≠ (T b).2.1)
/-- cell c is an object -/
def fw_Ob (G : Gw) (c ci : Nat) (fs : (Nat → Int32) → List Value) : Prop := c < gN G ∧ gsh G c = fun f => .inr (ci, fs f)
/-- cell c is an array of ints (t = .int) or booleans -/
def fw_Ar (G : Gw) (t : FieldType) (c n : Nat) : Prop := c < gN G ∧ ∃ (cA : ClassId) (t0 : Nat), (gT G)[t0]? = some (cA, t) ∧ gsh G c = fun f => .inl (cA, n, .inl f)
/-- cell c is an array of references to cells -/
def fw_Rf (G : Gw) (C : String) (c n : Nat) (g : Nat → Nat) : Prop := c < gN G ∧ ∃ (cA : ClassId) (t0 : Nat) (r : Nat → Option Nat), (gT G)[t0]? = some (cA, .object C) ∧ (gsh G c = fun _ => .inl (cA, n, .inr (.inr (.inr (.inr r))))) ∧ ∀ i, i < n → r i = some (gad G (g i))
theorem fr_get (O : fw_Ok X G cc nL own fr lo ret) {c ci k idx N : Nat} {C : String} {T : u_T} {ty : Nat → FieldType} {fs : (Nat → Int32) → List Value} {v : Value} (hc : fw_Cl ci C T N ty) (hl : Cond.fieldLink own idx C (T k).2.1 (T k).2.2.1 ∈ TT) (ho : fw_Ob G c ci fs) (hk : k < N) (hC : (T k).1 = C) (hv : (fs (σ c))[k]? = some v) (hdg : decode cc pc = .ok (.getfield idx, 3)) (kk : fw_At X G nL Q (pc + 3) lv (v :: st) σ) : fw_At X G nL Q pc lv (.ref (gad G c) :: st) σ := by
  intro H locs ls hP hS hlv
  refine va_get O.1.1 O.1.2.1 O.1.2.2.2.2 hc.2.1 O.1.2.2.2.1 O.2.1 hP c (fs := fs (σ c)) (ci := ci) (by rw [gw_at G σ ho.1, ho.2]) hc.1 k hk (O.1.2.2.2.2 _ hl) (fun x h => by rw [hC] at h; exact h) hv hdg (kk H locs ls hP hS hlv)
theorem fr_put (O : fw_Ok X G cc nL own fr lo ret) {c ci k idx N : Nat} {C : String} {T : u_T} {ty : Nat → FieldType} {fs : (Nat → Int32) → List Value} {v : Int32} (hc : fw_Cl ci C T N ty) (hl : Cond.fieldLink own idx C (T k).2.1 (T k).2.2.1 ∈ TT) (ho : fw_Ob G c ci fs) (hk : k < N) (hC : (T k).1 = C) (hfin : (T k).2.2.2 = false) (hn : narrow (ty k) (.int v) = .int v) (hfit : fits (ty k) (.int v) = true) (hlen : ∀ f, k < (fs f).length) (hset : ∀ f, (fs f).set k (.int v) = fs (upd f k v)) (hdg : decode cc pc = .ok (.putfield idx, 3)) (kk : ∀ σ' : Mem, σ' = up2 σ c k v → fw_At X G nL Q (pc + 3) lv st σ') : fw_At X G nL Q pc lv (.int v :: .ref (gad G c) :: st) σ := by
  intro H locs ls hP hS hlv
  have hG := O.2.2.2.2.2.2
  have he : (gw G σ)[c]? = some (gad G c, .inr (ci, fs (σ c))) := by rw [gw_at G σ ho.1, ho.2]
  refine va_put (v := .int v) O.1.1 O.1.2.1 O.1.2.2.2.2 hc.2.1 ty hc.2.2.1 hc.2.2.2 O.1.2.2.2.1 O.2.1 hP (gw_D hG σ) hS c he hc.1 k hk (O.1.2.2.2.2 _ hl) (fun x h => by rw [hC] at h; exact h) hfin (hc.2.2.1 k hk) hn hfit (hlen _) hdg (fun H1 locs1 hP1 hD1 hS1 => ?_)
  have e : (gw G σ).set c (gad G c, .inr (ci, (fs (σ c)).set k (.int v))) = gw G (up2 σ c k v) := by
    rw [hset, up2, ← gw_set G σ ho.1, ho.2]
  rw [e] at hP1
  exact kk _ rfl H1 locs1 ls hP1 hS1 hlv
theorem fr_iald (O : fw_Ok X G cc nL own fr lo ret) {c n : Nat} {i : Int32} (ha : fw_Ar G .int c n) (hin : vp_in i n) (hdg : decode cc pc = .ok (.iaload, 1)) (kk : fw_At X G nL Q (pc + 1) lv (.int (σ c i.toNatClampNeg) :: st) σ) : fw_At X G nL Q pc lv (.int i :: .ref (gad G c) :: st) σ := by
  intro H locs ls hP hS hlv
  obtain ⟨hc, cA, t0, ht, hs⟩ := ha
  exact va_iald O.1.1 O.1.2.1 O.2.1 hP c t0 (f := σ c) (by rw [gw_at G σ hc, hs]) ht hin hdg (kk H locs ls hP hS hlv)
theorem fr_zald (O : fw_Ok X G cc nL own fr lo ret) {c n : Nat} {i : Int32} (ha : fw_Ar G .boolean c n) (hin : vp_in i n) (hdg : decode cc pc = .ok (.baload, 1)) (kk : fw_At X G nL Q (pc + 1) lv (.int (σ c i.toNatClampNeg) :: st) σ) : fw_At X G nL Q pc lv (.int i :: .ref (gad G c) :: st) σ := by
  intro H locs ls hP hS hlv
  obtain ⟨hc, cA, t0, ht, hs⟩ := ha
  exact va_zald O.1.1 O.1.2.1 O.2.1 hP c t0 (f := σ c) (by rw [gw_at G σ hc, hs]) ht hin hdg (kk H locs ls hP hS hlv)
theorem fr_iast (O : fw_Ok X G cc nL own fr lo ret) {c n : Nat} {i v : Int32} (ha : fw_Ar G .int c n) (hin : vp_in i n) (hdg : decode cc pc = .ok (.iastore, 1)) (kk : ∀ σ' : Mem, σ' = up2 σ c i.toNatClampNeg v → fw_At X G nL Q (pc + 1) lv st σ') : fw_At X G nL Q pc lv (.int v :: .int i :: .ref (gad G c) :: st) σ := by
  intro H locs ls hP hS hlv
  have hG := O.2.2.2.2.2.2
  obtain ⟨hc, cA, t0, ht, hs⟩ := ha
  refine va_iast O.1.1 O.1.2.1 O.2.1 hP (gw_D hG σ) hS c t0 (f := σ c) (by rw [gw_at G σ hc, hs]) ht hin hdg (fun H1 locs1 hP1 hD1 hS1 => ?_)
  have e : (gw G σ).set c (gad G c, .inl (cA, n, .inl (upd (σ c) i.toNatClampNeg v))) = gw G (up2 σ c i.toNatClampNeg v) := by
    rw [up2, ← gw_set G σ hc, hs]
  rw [e] at hP1
  exact kk _ rfl H1 locs1 ls hP1 hS1 hlv
theorem fr_zast (O : fw_Ok X G cc nL own fr lo ret) {c n : Nat} {i v : Int32} (ha : fw_Ar G .boolean c n) (hin : vp_in i n) (hv : isB v) (hdg : decode cc pc = .ok (.bastore, 1)) (kk : ∀ σ' : Mem, σ' = up2 σ c i.toNatClampNeg v → fw_At X G nL Q (pc + 1) lv st σ') : fw_At X G nL Q pc lv (.int v :: .int i :: .ref (gad G c) :: st) σ := by
  intro H locs ls hP hS hlv
  have hG := O.2.2.2.2.2.2
  obtain ⟨hc, cA, t0, ht, hs⟩ := ha
  have hv2 : vp_nar .boolean v = v := by unfold vp_nar; rw [show narrow .boolean (.int v) = .int v from hv]
  refine va_zast O.1.1 O.1.2.1 O.2.1 hP (gw_D hG σ) hS c t0 (f := σ c) (by rw [gw_at G σ hc, hs]) ht hin hdg (fun H1 locs1 hP1 hD1 hS1 => ?_)
  have e : (gw G σ).set c (gad G c, .inl (cA, n, .inl (upd (σ c) i.toNatClampNeg (vp_nar .boolean v)))) = gw G (up2 σ c i.toNatClampNeg v) := by
    rw [hv2, up2, ← gw_set G σ hc, hs]
  rw [e] at hP1
  exact kk _ rfl H1 locs1 ls hP1 hS1 hlv
theorem fr_aald (O : fw_Ok X G cc nL own fr lo ret) {c n : Nat} {C : String} {g : Nat → Nat} {i : Int32} (ha : fw_Rf G C c n g) (hin : vp_in i n) (hdg : decode cc pc = .ok (.aaload, 1)) (kk : fw_At X G nL Q (pc + 1) lv (.ref (gad G (g i.toNatClampNeg)) :: st) σ) : fw_At X G nL Q pc lv (.int i :: .ref (gad G c) :: st) σ := by
  intro H locs ls hP hS hlv
  obtain ⟨hc, cA, t0, r, ht, hs, hr⟩ := ha
  have hlt : i.toNatClampNeg < n := Nat.not_le.mp fun q => hin (Or.inr q)
  refine va_aldq O.1.1 O.1.2.1 O.2.1 hP c t0 (f := r) (n := n) (cA := cA) (by rw [gw_at G σ hc, hs]) ht hin hdg ?_
  rw [hr _ hlt]
  exact kk H locs ls hP hS hlv
/-- what a call needs of the named method -/
def fw_Mt (y : MethodName) (cc : ByteArray) (nL : Nat) (ret : Option FieldType) (n : Nat) : Prop := Cond.code y cc nL ret ∈ TT ∧ Cond.initialized y.cls ∈ TT ∧ (y.cls ≠ "java/lang/invoke/MethodHandle" ∧ y.cls ≠ "java/lang/invoke/VarHandle" ∧ (parseMethodDescriptor y.desc).map (fun d => d.parameters.length) = some n)
def fw_Vt (y : MethodName) : Prop := Cond.instanceMethod y ∈ TT ∧ Cond.selects y.cls y y ∈ TT
theorem fw_callB (O : fw_Ok X G cc nL own fr lo ret) {y : MethodName} {bytes : ByteArray} {mL n fr' lo' idx : Nat} {ret' : Option FieldType} (hm : fw_Mt y bytes mL ret' n) (hl : Cond.methodLink own idx y ∈ TT) (hR : fr' + 1 ≤ fr ∧ 8 + (mL + 11) + lo' ≤ lo) : CallB X.2.2.2.1 X.2.2.2.2.1 X.2.2.2.2.2.2.1 own idx y bytes mL ret' (fw_wd y bytes mL ret') (fw_rm fr' lo') 0 0 n :=
  callB_of n O.1.2.2.2.2 (fw_wd_good hm.1) rfl rfl rfl (O.1.2.2.2.2 _ hm.2.1) (O.1.2.2.2.2 _ hl) hm.2.2 (by rw [O.2.2.2.1]; exact hR)
theorem fw_pre (O : fw_Ok X G cc nL own fr lo ret) (As : List Value) {H : Heap} {locs : List Loc} (hP : va_P (gD G) vwCl (gw G σ) H) (hS : va_S (gA G) X.2.2.2.2.1.heap H locs) : PreS X.2.2.2.2.1 H (va_Pc As (fw_WB G σ)) As :=
  ⟨fw_WB.blind O.2.2.2.2.2.2 σ As, fun U hU hW => ⟨rfl, by rw [hU]; exact hP, va_K.moved hW.alike O.2.1, O.2.2.2.2.2.2.2.1 _ _ O.2.2.1 hW (by rw [hU]; exact hS.1) (fun q h1 h2 => by rw [hU]; exact hS.2.1 q h1 h2)⟩⟩
theorem fw_preV (O : fw_Ok X G cc nL own fr lo ret) {c ci N : Nat} {C : String} {T : u_T} {ty : Nat → FieldType} {fs : (Nat → Int32) → List Value} (hc : fw_Cl ci C T N ty) (ho : fw_Ob G c ci fs) (As : List Value) {H : Heap} {locs : List Loc} (hP : va_P (gD G) vwCl (gw G σ) H) (hS : va_S (gA G) X.2.2.2.2.1.heap H locs) : PreV X.2.2.2.2.1 H C (gad G c) (va_Pc (.ref (gad G c) :: As) (fw_WB G σ)) As :=
  ⟨(fw_pre O _ hP hS).1, va_recv (q := (C, T, N)) O.2.1 hP (ci := ci) (q0 := c) (fs := fs (σ c)) hc.1 (by rw [gw_at G σ ho.1, ho.2]), (fw_pre O _ hP hS).2⟩
theorem fr_callVI (O : fw_Ok X G cc nL own fr lo ret) {y : MethodName} {bytes : ByteArray} {mL n fr' lo' idx c ci N : Nat} {C : String} {T : u_T} {ty : Nat → FieldType} {fs : (Nat → Int32) → List Value} {rt : FieldType} {As st1 : List Value} {post : Int32 → Mem → Prop} (hM : fw_CI X.2.1 G y bytes mL rt fr' lo' (.ref (gad G c) :: As) σ post) (hm : fw_Mt y bytes mL (some rt) n) (hv : fw_Vt y) (hl : Cond.methodLink own idx y ∈ TT) (hc : fw_Cl ci C T N ty) (hyc : y.cls = C) (ho : fw_Ob G c ci fs) (hn : As.length = n) (hR : fr' + 1 ≤ fr ∧ 8 + (mL + 11) + lo' ≤ lo) (hst : st1 = As.reverse ++ .ref (gad G c) :: st) (hcat : (st.map fun v => v.category).sum ≤ 8) (hdg : decode cc pc = .ok (.invokevirtual idx, 3)) (kk : ∀ (r : Int32) (σ' : Mem), post r σ' → fw_At X G nL Q (pc + 3) lv (.int r :: st) σ') : fw_At X G nL Q pc lv st1 σ := by
  intro H locs ls hP hS hlv
  subst hst
  refine va_calli (A0 := gA G) (va_runV (C := C) O.1 hM ⟨fw_callB O hm hl hR, O.1.2.2.2.2 _ hv.1, O.1.2.2.2.2 _ (by rw [← hyc]; exact hv.2)⟩ (fw_preV O hc ho As hP hS) rfl hn hlv.1 rfl (lv_room hcat) hdg ⟨Nat.zero_le _, Nat.zero_le _⟩) hS (fun q _ h => h) (fun q h => h) (fun r u t H1 locs1 ht hvm hw hB hz1 hk1 hS1 => kk r u hw H1 locs1 ls (by rw [← ht]; exact hB.1) hS1 hlv)
theorem fr_callSI (O : fw_Ok X G cc nL own fr lo ret) {y : MethodName} {bytes : ByteArray} {mL n fr' lo' idx : Nat} {rt : FieldType} {As st1 : List Value} {post : Int32 → Mem → Prop} (hM : fw_CI X.2.1 G y bytes mL rt fr' lo' As σ post) (hm : fw_Mt y bytes mL (some rt) n) (hv : Cond.static y ∈ TT) (hl : Cond.methodLink own idx y ∈ TT) (hn : As.length = n) (hR : fr' + 1 ≤ fr ∧ 8 + (mL + 11) + lo' ≤ lo) (hst : st1 = As.reverse ++ st) (hcat : (st.map fun v => v.category).sum ≤ 8) (hdg : decode cc pc = .ok (.invokestatic idx, 3)) (kk : ∀ (r : Int32) (σ' : Mem), post r σ' → fw_At X G nL Q (pc + 3) lv (.int r :: st) σ') : fw_At X G nL Q pc lv st1 σ := by
  intro H locs ls hP hS hlv
  subst hst
  refine va_calli (A0 := gA G) (va_runS O.1 hM ⟨fw_callB O hm hl hR, O.1.2.2.2.2 _ hv⟩ (fw_pre O As hP hS) rfl hn hlv.1 rfl (lv_room hcat) hdg ⟨Nat.zero_le _, Nat.zero_le _⟩) hS (fun q _ h => h) (fun q h => h) (fun r u t H1 locs1 ht hvm hw hB hz1 hk1 hS1 => kk r u hw H1 locs1 ls (by rw [← ht]; exact hB.1) hS1 hlv)
theorem fr_callNI (O : fw_Ok X G cc nL own fr lo ret) {y : MethodName} {bytes : ByteArray} {mL n fr' lo' idx : Nat} {host : String} {rt : FieldType} {As st1 : List Value} {post : Int32 → Mem → Prop} (hM : fw_CI X.2.1 G y bytes mL rt fr' lo' As σ post) (hm : fw_Mt y bytes mL (some rt) n) (hv : Cond.static y ∈ TT) (hl : va_Nw (.methodLinkNest own idx y host) X.2.2.2.2.1) (hn : As.length = n) (hR : fr' + 1 ≤ fr ∧ 8 + (mL + 11) + lo' ≤ lo) (hst : st1 = As.reverse ++ st) (hcat : (st.map fun v => v.category).sum ≤ 8) (hdg : decode cc pc = .ok (.invokestatic idx, 3)) (kk : ∀ (r : Int32) (σ' : Mem), post r σ' → fw_At X G nL Q (pc + 3) lv (.int r :: st) σ') : fw_At X G nL Q pc lv st1 σ := by
  intro H locs ls hP hS hlv
  subst hst
  refine va_calli (A0 := gA G) (va_runSN O.1 hM ⟨va_cnB n O.1.2.2.2.2 (fw_wd_good hm.1) rfl rfl rfl hl (O.1.2.2.2.2 _ hm.2.1) hm.2.2 (by rw [O.2.2.2.1]; exact hR), O.1.2.2.2.2 _ hv, trivial⟩ (fw_pre O As hP hS) rfl hn hlv.1 rfl (lv_room hcat) hdg ⟨Nat.zero_le _, Nat.zero_le _⟩) hS (fun q _ h => h) (fun q h => h) (fun r u t H1 locs1 ht hvm hw hB hz1 hk1 hS1 => kk r u hw H1 locs1 ls (by rw [← ht]; exact hB.1) hS1 hlv)
theorem fr_callVL (O : fw_Ok X G cc nL own fr lo ret) {y : MethodName} {bytes : ByteArray} {mL n fr' lo' idx c ci N : Nat} {C : String} {T : u_T} {ty : Nat → FieldType} {fs : (Nat → Int32) → List Value}  {As st1 : List Value} {post : Int64 → Mem → Prop} (hM : fw_CL X.2.1 G y bytes mL fr' lo' (.ref (gad G c) :: As) σ post) (hm : fw_Mt y bytes mL (some .long) n) (hv : fw_Vt y) (hl : Cond.methodLink own idx y ∈ TT) (hc : fw_Cl ci C T N ty) (hyc : y.cls = C) (ho : fw_Ob G c ci fs) (hn : As.length = n) (hR : fr' + 1 ≤ fr ∧ 8 + (mL + 11) + lo' ≤ lo) (hst : st1 = As.reverse ++ .ref (gad G c) :: st) (hcat : (st.map fun v => v.category).sum ≤ 8) (hdg : decode cc pc = .ok (.invokevirtual idx, 3)) (kk : ∀ (r : Int64) (σ' : Mem), post r σ' → fw_At X G nL Q (pc + 3) lv (.long r :: st) σ') : fw_At X G nL Q pc lv st1 σ := by
  intro H locs ls hP hS hlv
  subst hst
  refine va_calll (A0 := gA G) (va_runV (C := C) O.1 hM ⟨fw_callB O hm hl hR, O.1.2.2.2.2 _ hv.1, O.1.2.2.2.2 _ (by rw [← hyc]; exact hv.2)⟩ (fw_preV O hc ho As hP hS) rfl hn hlv.1 rfl (lv_room hcat) hdg ⟨Nat.zero_le _, Nat.zero_le _⟩) hS (fun q _ h => h) (fun q h => h) (fun r u t H1 locs1 ht hvm hw hB hz1 hk1 hS1 => kk r u hw H1 locs1 ls (by rw [← ht]; exact hB.1) hS1 hlv)
theorem fr_callSL (O : fw_Ok X G cc nL own fr lo ret) {y : MethodName} {bytes : ByteArray} {mL n fr' lo' idx : Nat}  {As st1 : List Value} {post : Int64 → Mem → Prop} (hM : fw_CL X.2.1 G y bytes mL fr' lo' As σ post) (hm : fw_Mt y bytes mL (some .long) n) (hv : Cond.static y ∈ TT) (hl : Cond.methodLink own idx y ∈ TT) (hn : As.length = n) (hR : fr' + 1 ≤ fr ∧ 8 + (mL + 11) + lo' ≤ lo) (hst : st1 = As.reverse ++ st) (hcat : (st.map fun v => v.category).sum ≤ 8) (hdg : decode cc pc = .ok (.invokestatic idx, 3)) (kk : ∀ (r : Int64) (σ' : Mem), post r σ' → fw_At X G nL Q (pc + 3) lv (.long r :: st) σ') : fw_At X G nL Q pc lv st1 σ := by
  intro H locs ls hP hS hlv
  subst hst
  refine va_calll (A0 := gA G) (va_runS O.1 hM ⟨fw_callB O hm hl hR, O.1.2.2.2.2 _ hv⟩ (fw_pre O As hP hS) rfl hn hlv.1 rfl (lv_room hcat) hdg ⟨Nat.zero_le _, Nat.zero_le _⟩) hS (fun q _ h => h) (fun q h => h) (fun r u t H1 locs1 ht hvm hw hB hz1 hk1 hS1 => kk r u hw H1 locs1 ls (by rw [← ht]; exact hB.1) hS1 hlv)
theorem fr_callNL (O : fw_Ok X G cc nL own fr lo ret) {y : MethodName} {bytes : ByteArray} {mL n fr' lo' idx : Nat} {host : String}  {As st1 : List Value} {post : Int64 → Mem → Prop} (hM : fw_CL X.2.1 G y bytes mL fr' lo' As σ post) (hm : fw_Mt y bytes mL (some .long) n) (hv : Cond.static y ∈ TT) (hl : va_Nw (.methodLinkNest own idx y host) X.2.2.2.2.1) (hn : As.length = n) (hR : fr' + 1 ≤ fr ∧ 8 + (mL + 11) + lo' ≤ lo) (hst : st1 = As.reverse ++ st) (hcat : (st.map fun v => v.category).sum ≤ 8) (hdg : decode cc pc = .ok (.invokestatic idx, 3)) (kk : ∀ (r : Int64) (σ' : Mem), post r σ' → fw_At X G nL Q (pc + 3) lv (.long r :: st) σ') : fw_At X G nL Q pc lv st1 σ := by
  intro H locs ls hP hS hlv
  subst hst
  refine va_calll (A0 := gA G) (va_runSN O.1 hM ⟨va_cnB n O.1.2.2.2.2 (fw_wd_good hm.1) rfl rfl rfl hl (O.1.2.2.2.2 _ hm.2.1) hm.2.2 (by rw [O.2.2.2.1]; exact hR), O.1.2.2.2.2 _ hv, trivial⟩ (fw_pre O As hP hS) rfl hn hlv.1 rfl (lv_room hcat) hdg ⟨Nat.zero_le _, Nat.zero_le _⟩) hS (fun q _ h => h) (fun q h => h) (fun r u t H1 locs1 ht hvm hw hB hz1 hk1 hS1 => kk r u hw H1 locs1 ls (by rw [← ht]; exact hB.1) hS1 hlv)
theorem fr_callVV (O : fw_Ok X G cc nL own fr lo ret) {y : MethodName} {bytes : ByteArray} {mL n fr' lo' idx c ci N : Nat} {C : String} {T : u_T} {ty : Nat → FieldType} {fs : (Nat → Int32) → List Value}  {As st1 : List Value} {post : Mem → Prop} (hM : fw_CV X.2.1 G y bytes mL fr' lo' (.ref (gad G c) :: As) σ post) (hm : fw_Mt y bytes mL none n) (hv : fw_Vt y) (hl : Cond.methodLink own idx y ∈ TT) (hc : fw_Cl ci C T N ty) (hyc : y.cls = C) (ho : fw_Ob G c ci fs) (hn : As.length = n) (hR : fr' + 1 ≤ fr ∧ 8 + (mL + 11) + lo' ≤ lo) (hst : st1 = As.reverse ++ .ref (gad G c) :: st) (hcat : (st.map fun v => v.category).sum ≤ 8) (hdg : decode cc pc = .ok (.invokevirtual idx, 3)) (kk : ∀ (σ' : Mem), post σ' → fw_At X G nL Q (pc + 3) lv st σ') : fw_At X G nL Q pc lv st1 σ := by
  intro H locs ls hP hS hlv
  subst hst
  refine va_callv (A0 := gA G) (va_runV (C := C) O.1 hM ⟨fw_callB O hm hl hR, O.1.2.2.2.2 _ hv.1, O.1.2.2.2.2 _ (by rw [← hyc]; exact hv.2)⟩ (fw_preV O hc ho As hP hS) rfl hn hlv.1 rfl (lv_room hcat) hdg ⟨Nat.zero_le _, Nat.zero_le _⟩) hS (fun q _ h => h) (fun q h => h) (fun u t H1 locs1 ht hvm hw hB hz1 hk1 hS1 => kk u hw H1 locs1 ls (by rw [← ht]; exact hB.1) hS1 hlv)
theorem fr_callSV (O : fw_Ok X G cc nL own fr lo ret) {y : MethodName} {bytes : ByteArray} {mL n fr' lo' idx : Nat}  {As st1 : List Value} {post : Mem → Prop} (hM : fw_CV X.2.1 G y bytes mL fr' lo' As σ post) (hm : fw_Mt y bytes mL none n) (hv : Cond.static y ∈ TT) (hl : Cond.methodLink own idx y ∈ TT) (hn : As.length = n) (hR : fr' + 1 ≤ fr ∧ 8 + (mL + 11) + lo' ≤ lo) (hst : st1 = As.reverse ++ st) (hcat : (st.map fun v => v.category).sum ≤ 8) (hdg : decode cc pc = .ok (.invokestatic idx, 3)) (kk : ∀ (σ' : Mem), post σ' → fw_At X G nL Q (pc + 3) lv st σ') : fw_At X G nL Q pc lv st1 σ := by
  intro H locs ls hP hS hlv
  subst hst
  refine va_callv (A0 := gA G) (va_runS O.1 hM ⟨fw_callB O hm hl hR, O.1.2.2.2.2 _ hv⟩ (fw_pre O As hP hS) rfl hn hlv.1 rfl (lv_room hcat) hdg ⟨Nat.zero_le _, Nat.zero_le _⟩) hS (fun q _ h => h) (fun q h => h) (fun u t H1 locs1 ht hvm hw hB hz1 hk1 hS1 => kk u hw H1 locs1 ls (by rw [← ht]; exact hB.1) hS1 hlv)
theorem fr_callNV (O : fw_Ok X G cc nL own fr lo ret) {y : MethodName} {bytes : ByteArray} {mL n fr' lo' idx : Nat} {host : String}  {As st1 : List Value} {post : Mem → Prop} (hM : fw_CV X.2.1 G y bytes mL fr' lo' As σ post) (hm : fw_Mt y bytes mL none n) (hv : Cond.static y ∈ TT) (hl : va_Nw (.methodLinkNest own idx y host) X.2.2.2.2.1) (hn : As.length = n) (hR : fr' + 1 ≤ fr ∧ 8 + (mL + 11) + lo' ≤ lo) (hst : st1 = As.reverse ++ st) (hcat : (st.map fun v => v.category).sum ≤ 8) (hdg : decode cc pc = .ok (.invokestatic idx, 3)) (kk : ∀ (σ' : Mem), post σ' → fw_At X G nL Q (pc + 3) lv st σ') : fw_At X G nL Q pc lv st1 σ := by
  intro H locs ls hP hS hlv
  subst hst
  refine va_callv (A0 := gA G) (va_runSN O.1 hM ⟨va_cnB n O.1.2.2.2.2 (fw_wd_good hm.1) rfl rfl rfl hl (O.1.2.2.2.2 _ hm.2.1) hm.2.2 (by rw [O.2.2.2.1]; exact hR), O.1.2.2.2.2 _ hv, trivial⟩ (fw_pre O As hP hS) rfl hn hlv.1 rfl (lv_room hcat) hdg ⟨Nat.zero_le _, Nat.zero_le _⟩) hS (fun q _ h => h) (fun q h => h) (fun u t H1 locs1 ht hvm hw hB hz1 hk1 hS1 => kk u hw H1 locs1 ls (by rw [← ht]; exact hB.1) hS1 hlv)
theorem fr_mmax (O : fw_Ok X G cc nL own fr lo ret) {idx : Nat} {x y : Int32} (hl : Cond.methodLink own idx Lib.Math.max.name ∈ TT) (hv : Cond.static Lib.Math.max.name ∈ TT) (hi : Cond.initialized "java/lang/Math" ∈ TT) (hc : Cond.code Lib.Math.max.name Lib.Math.max.code 2 (some .int) ∈ TT) (hR : 1 ≤ fr ∧ (st.map fun v => v.category).sum + 13 ≤ lo) (hdg : decode cc pc = .ok (.invokestatic idx, 3)) (kk : fw_At X G nL Q (pc + 3) lv (.int (if x < y then y else x) :: st) σ) : fw_At X G nL Q pc lv (.int y :: .int x :: st) σ := by
  intro H locs ls hP hS hlv
  exact va_mmax O.1.1 O.1.2.1 (by rw [O.1.2.2.1]; exact hlv.1.symm) O.1.2.2.2.1 (O.1.2.2.2.2 _ hl) (O.1.2.2.2.2 _ hv) (O.1.2.2.2.2 _ hi) (O.1.2.2.2.2 _ hc) (by rw [O.2.2.2.1]; exact hR.1) (by rw [O.2.2.2.1]; exact hR.2) (Nat.zero_le _) (Nat.zero_le _) hdg (kk H locs ls hP hS hlv)
theorem fr_mmin (O : fw_Ok X G cc nL own fr lo ret) {idx : Nat} {x y : Int32} (hl : Cond.methodLink own idx Lib.Math.min.name ∈ TT) (hv : Cond.static Lib.Math.min.name ∈ TT) (hi : Cond.initialized "java/lang/Math" ∈ TT) (hc : Cond.code Lib.Math.min.name Lib.Math.min.code 2 (some .int) ∈ TT) (hR : 1 ≤ fr ∧ (st.map fun v => v.category).sum + 13 ≤ lo) (hdg : decode cc pc = .ok (.invokestatic idx, 3)) (kk : fw_At X G nL Q (pc + 3) lv (.int (if y < x then y else x) :: st) σ) : fw_At X G nL Q pc lv (.int y :: .int x :: st) σ := by
  intro H locs ls hP hS hlv
  exact va_mmin O.1.1 O.1.2.1 (by rw [O.1.2.2.1]; exact hlv.1.symm) O.1.2.2.2.1 (O.1.2.2.2.2 _ hl) (O.1.2.2.2.2 _ hv) (O.1.2.2.2.2 _ hi) (O.1.2.2.2.2 _ hc) (by rw [O.2.2.2.1]; exact hR.1) (by rw [O.2.2.2.1]; exact hR.2) (Nat.zero_le _) (Nat.zero_le _) hdg (kk H locs ls hP hS hlv)
end ROWS
/-! loops: a step by step predicate, its walk and its rule of proof -/
def it0 (F : (Mem → Prop) → Mem → Prop) : Nat → Mem → Prop
  | 0 => fun _ => False
  | n + 1 => F (it0 F n)
theorem it0_walk {F : (Mem → Prop) → Mem → Prop} {T : Mem → Prop} (hs : ∀ k : Mem → Prop, (∀ (σ : Mem), k  σ → T  σ) → ∀ (σ : Mem), F k  σ → T  σ) : ∀ (n : Nat) (σ : Mem), it0 F n  σ → T  σ
  | 0, _ => fun h => absurd h id
  | n + 1, σ => hs (it0 F n) (it0_walk hs n)  σ
theorem it0_ind {F : (Mem → Prop) → Mem → Prop} (I : Mem → Prop) (μ : Mem → Nat) (hs : ∀ (k : Mem → Prop) (σ : Mem), I  σ → (∀ (σ' : Mem), I  σ' → μ  σ' < μ  σ → k  σ') → F k  σ) (σ : Mem) (h : I  σ) : ∃ n, it0 F n  σ := by
  have key : ∀ (n : Nat) (σ : Mem), I  σ → μ  σ < n → it0 F n  σ := by
    intro n
    induction n with
    | zero => intro  σ _ h; exact absurd h (Nat.not_lt_zero _)
    | succ n ih =>
      intro  σ hI hm
      exact hs (it0 F n)  σ hI (fun  σ' h1 h2 => ih  σ' h1 (by omega))
  exact ⟨_, key (μ  σ + 1)  σ h (Nat.lt_succ_self _)⟩
def it1 {A1 : Type} (F : (A1 → Mem → Prop) → A1 → Mem → Prop) : Nat → A1 → Mem → Prop
  | 0 => fun _ _ => False
  | n + 1 => F (it1 F n)
theorem it1_walk {A1 : Type} {F : (A1 → Mem → Prop) → A1 → Mem → Prop} {T : A1 → Mem → Prop} (hs : ∀ k : A1 → Mem → Prop, (∀ (a1 : A1) (σ : Mem), k a1 σ → T a1 σ) → ∀ (a1 : A1) (σ : Mem), F k a1 σ → T a1 σ) : ∀ (n : Nat) (a1 : A1) (σ : Mem), it1 F n a1 σ → T a1 σ
  | 0, _, _ => fun h => absurd h id
  | n + 1, a1, σ => hs (it1 F n) (it1_walk hs n) a1 σ
theorem it1_ind {A1 : Type} {F : (A1 → Mem → Prop) → A1 → Mem → Prop} (I : A1 → Mem → Prop) (μ : A1 → Mem → Nat) (hs : ∀ (k : A1 → Mem → Prop) (a1 : A1) (σ : Mem), I a1 σ → (∀ (b1 : A1) (σ' : Mem), I b1 σ' → μ b1 σ' < μ a1 σ → k b1 σ') → F k a1 σ) (a1 : A1) (σ : Mem) (h : I a1 σ) : ∃ n, it1 F n a1 σ := by
  have key : ∀ (n : Nat) (a1 : A1) (σ : Mem), I a1 σ → μ a1 σ < n → it1 F n a1 σ := by
    intro n
    induction n with
    | zero => intro a1 σ _ h; exact absurd h (Nat.not_lt_zero _)
    | succ n ih =>
      intro a1 σ hI hm
      exact hs (it1 F n) a1 σ hI (fun b1 σ' h1 h2 => ih b1 σ' h1 (by omega))
  exact ⟨_, key (μ a1 σ + 1) a1 σ h (Nat.lt_succ_self _)⟩
def it2 {A1 A2 : Type} (F : (A1 → A2 → Mem → Prop) → A1 → A2 → Mem → Prop) : Nat → A1 → A2 → Mem → Prop
  | 0 => fun _ _ _ => False
  | n + 1 => F (it2 F n)
theorem it2_walk {A1 A2 : Type} {F : (A1 → A2 → Mem → Prop) → A1 → A2 → Mem → Prop} {T : A1 → A2 → Mem → Prop} (hs : ∀ k : A1 → A2 → Mem → Prop, (∀ (a1 : A1) (a2 : A2) (σ : Mem), k a1 a2 σ → T a1 a2 σ) → ∀ (a1 : A1) (a2 : A2) (σ : Mem), F k a1 a2 σ → T a1 a2 σ) : ∀ (n : Nat) (a1 : A1) (a2 : A2) (σ : Mem), it2 F n a1 a2 σ → T a1 a2 σ
  | 0, _, _, _ => fun h => absurd h id
  | n + 1, a1, a2, σ => hs (it2 F n) (it2_walk hs n) a1 a2 σ
theorem it2_ind {A1 A2 : Type} {F : (A1 → A2 → Mem → Prop) → A1 → A2 → Mem → Prop} (I : A1 → A2 → Mem → Prop) (μ : A1 → A2 → Mem → Nat) (hs : ∀ (k : A1 → A2 → Mem → Prop) (a1 : A1) (a2 : A2) (σ : Mem), I a1 a2 σ → (∀ (b1 : A1) (b2 : A2) (σ' : Mem), I b1 b2 σ' → μ b1 b2 σ' < μ a1 a2 σ → k b1 b2 σ') → F k a1 a2 σ) (a1 : A1) (a2 : A2) (σ : Mem) (h : I a1 a2 σ) : ∃ n, it2 F n a1 a2 σ := by
  have key : ∀ (n : Nat) (a1 : A1) (a2 : A2) (σ : Mem), I a1 a2 σ → μ a1 a2 σ < n → it2 F n a1 a2 σ := by
    intro n
    induction n with
    | zero => intro a1 a2 σ _ h; exact absurd h (Nat.not_lt_zero _)
    | succ n ih =>
      intro a1 a2 σ hI hm
      exact hs (it2 F n) a1 a2 σ hI (fun b1 b2 σ' h1 h2 => ih b1 b2 σ' h1 (by omega))
  exact ⟨_, key (μ a1 a2 σ + 1) a1 a2 σ h (Nat.lt_succ_self _)⟩
def it3 {A1 A2 A3 : Type} (F : (A1 → A2 → A3 → Mem → Prop) → A1 → A2 → A3 → Mem → Prop) : Nat → A1 → A2 → A3 → Mem → Prop
  | 0 => fun _ _ _ _ => False
  | n + 1 => F (it3 F n)
theorem it3_walk {A1 A2 A3 : Type} {F : (A1 → A2 → A3 → Mem → Prop) → A1 → A2 → A3 → Mem → Prop} {T : A1 → A2 → A3 → Mem → Prop} (hs : ∀ k : A1 → A2 → A3 → Mem → Prop, (∀ (a1 : A1) (a2 : A2) (a3 : A3) (σ : Mem), k a1 a2 a3 σ → T a1 a2 a3 σ) → ∀ (a1 : A1) (a2 : A2) (a3 : A3) (σ : Mem), F k a1 a2 a3 σ → T a1 a2 a3 σ) : ∀ (n : Nat) (a1 : A1) (a2 : A2) (a3 : A3) (σ : Mem), it3 F n a1 a2 a3 σ → T a1 a2 a3 σ
  | 0, _, _, _, _ => fun h => absurd h id
  | n + 1, a1, a2, a3, σ => hs (it3 F n) (it3_walk hs n) a1 a2 a3 σ
theorem it3_ind {A1 A2 A3 : Type} {F : (A1 → A2 → A3 → Mem → Prop) → A1 → A2 → A3 → Mem → Prop} (I : A1 → A2 → A3 → Mem → Prop) (μ : A1 → A2 → A3 → Mem → Nat) (hs : ∀ (k : A1 → A2 → A3 → Mem → Prop) (a1 : A1) (a2 : A2) (a3 : A3) (σ : Mem), I a1 a2 a3 σ → (∀ (b1 : A1) (b2 : A2) (b3 : A3) (σ' : Mem), I b1 b2 b3 σ' → μ b1 b2 b3 σ' < μ a1 a2 a3 σ → k b1 b2 b3 σ') → F k a1 a2 a3 σ) (a1 : A1) (a2 : A2) (a3 : A3) (σ : Mem) (h : I a1 a2 a3 σ) : ∃ n, it3 F n a1 a2 a3 σ := by
  have key : ∀ (n : Nat) (a1 : A1) (a2 : A2) (a3 : A3) (σ : Mem), I a1 a2 a3 σ → μ a1 a2 a3 σ < n → it3 F n a1 a2 a3 σ := by
    intro n
    induction n with
    | zero => intro a1 a2 a3 σ _ h; exact absurd h (Nat.not_lt_zero _)
    | succ n ih =>
      intro a1 a2 a3 σ hI hm
      exact hs (it3 F n) a1 a2 a3 σ hI (fun b1 b2 b3 σ' h1 h2 => ih b1 b2 b3 σ' h1 (by omega))
  exact ⟨_, key (μ a1 a2 a3 σ + 1) a1 a2 a3 σ h (Nat.lt_succ_self _)⟩
def it4 {A1 A2 A3 A4 : Type} (F : (A1 → A2 → A3 → A4 → Mem → Prop) → A1 → A2 → A3 → A4 → Mem → Prop) : Nat → A1 → A2 → A3 → A4 → Mem → Prop
  | 0 => fun _ _ _ _ _ => False
  | n + 1 => F (it4 F n)
theorem it4_walk {A1 A2 A3 A4 : Type} {F : (A1 → A2 → A3 → A4 → Mem → Prop) → A1 → A2 → A3 → A4 → Mem → Prop} {T : A1 → A2 → A3 → A4 → Mem → Prop} (hs : ∀ k : A1 → A2 → A3 → A4 → Mem → Prop, (∀ (a1 : A1) (a2 : A2) (a3 : A3) (a4 : A4) (σ : Mem), k a1 a2 a3 a4 σ → T a1 a2 a3 a4 σ) → ∀ (a1 : A1) (a2 : A2) (a3 : A3) (a4 : A4) (σ : Mem), F k a1 a2 a3 a4 σ → T a1 a2 a3 a4 σ) : ∀ (n : Nat) (a1 : A1) (a2 : A2) (a3 : A3) (a4 : A4) (σ : Mem), it4 F n a1 a2 a3 a4 σ → T a1 a2 a3 a4 σ
  | 0, _, _, _, _, _ => fun h => absurd h id
  | n + 1, a1, a2, a3, a4, σ => hs (it4 F n) (it4_walk hs n) a1 a2 a3 a4 σ
theorem it4_ind {A1 A2 A3 A4 : Type} {F : (A1 → A2 → A3 → A4 → Mem → Prop) → A1 → A2 → A3 → A4 → Mem → Prop} (I : A1 → A2 → A3 → A4 → Mem → Prop) (μ : A1 → A2 → A3 → A4 → Mem → Nat) (hs : ∀ (k : A1 → A2 → A3 → A4 → Mem → Prop) (a1 : A1) (a2 : A2) (a3 : A3) (a4 : A4) (σ : Mem), I a1 a2 a3 a4 σ → (∀ (b1 : A1) (b2 : A2) (b3 : A3) (b4 : A4) (σ' : Mem), I b1 b2 b3 b4 σ' → μ b1 b2 b3 b4 σ' < μ a1 a2 a3 a4 σ → k b1 b2 b3 b4 σ') → F k a1 a2 a3 a4 σ) (a1 : A1) (a2 : A2) (a3 : A3) (a4 : A4) (σ : Mem) (h : I a1 a2 a3 a4 σ) : ∃ n, it4 F n a1 a2 a3 a4 σ := by
  have key : ∀ (n : Nat) (a1 : A1) (a2 : A2) (a3 : A3) (a4 : A4) (σ : Mem), I a1 a2 a3 a4 σ → μ a1 a2 a3 a4 σ < n → it4 F n a1 a2 a3 a4 σ := by
    intro n
    induction n with
    | zero => intro a1 a2 a3 a4 σ _ h; exact absurd h (Nat.not_lt_zero _)
    | succ n ih =>
      intro a1 a2 a3 a4 σ hI hm
      exact hs (it4 F n) a1 a2 a3 a4 σ hI (fun b1 b2 b3 b4 σ' h1 h2 => ih b1 b2 b3 b4 σ' h1 (by omega))
  exact ⟨_, key (μ a1 a2 a3 a4 σ + 1) a1 a2 a3 a4 σ h (Nat.lt_succ_self _)⟩
def it5 {A1 A2 A3 A4 A5 : Type} (F : (A1 → A2 → A3 → A4 → A5 → Mem → Prop) → A1 → A2 → A3 → A4 → A5 → Mem → Prop) : Nat → A1 → A2 → A3 → A4 → A5 → Mem → Prop
  | 0 => fun _ _ _ _ _ _ => False
  | n + 1 => F (it5 F n)
theorem it5_walk {A1 A2 A3 A4 A5 : Type} {F : (A1 → A2 → A3 → A4 → A5 → Mem → Prop) → A1 → A2 → A3 → A4 → A5 → Mem → Prop} {T : A1 → A2 → A3 → A4 → A5 → Mem → Prop} (hs : ∀ k : A1 → A2 → A3 → A4 → A5 → Mem → Prop, (∀ (a1 : A1) (a2 : A2) (a3 : A3) (a4 : A4) (a5 : A5) (σ : Mem), k a1 a2 a3 a4 a5 σ → T a1 a2 a3 a4 a5 σ) → ∀ (a1 : A1) (a2 : A2) (a3 : A3) (a4 : A4) (a5 : A5) (σ : Mem), F k a1 a2 a3 a4 a5 σ → T a1 a2 a3 a4 a5 σ) : ∀ (n : Nat) (a1 : A1) (a2 : A2) (a3 : A3) (a4 : A4) (a5 : A5) (σ : Mem), it5 F n a1 a2 a3 a4 a5 σ → T a1 a2 a3 a4 a5 σ
  | 0, _, _, _, _, _, _ => fun h => absurd h id
  | n + 1, a1, a2, a3, a4, a5, σ => hs (it5 F n) (it5_walk hs n) a1 a2 a3 a4 a5 σ
theorem it5_ind {A1 A2 A3 A4 A5 : Type} {F : (A1 → A2 → A3 → A4 → A5 → Mem → Prop) → A1 → A2 → A3 → A4 → A5 → Mem → Prop} (I : A1 → A2 → A3 → A4 → A5 → Mem → Prop) (μ : A1 → A2 → A3 → A4 → A5 → Mem → Nat) (hs : ∀ (k : A1 → A2 → A3 → A4 → A5 → Mem → Prop) (a1 : A1) (a2 : A2) (a3 : A3) (a4 : A4) (a5 : A5) (σ : Mem), I a1 a2 a3 a4 a5 σ → (∀ (b1 : A1) (b2 : A2) (b3 : A3) (b4 : A4) (b5 : A5) (σ' : Mem), I b1 b2 b3 b4 b5 σ' → μ b1 b2 b3 b4 b5 σ' < μ a1 a2 a3 a4 a5 σ → k b1 b2 b3 b4 b5 σ') → F k a1 a2 a3 a4 a5 σ) (a1 : A1) (a2 : A2) (a3 : A3) (a4 : A4) (a5 : A5) (σ : Mem) (h : I a1 a2 a3 a4 a5 σ) : ∃ n, it5 F n a1 a2 a3 a4 a5 σ := by
  have key : ∀ (n : Nat) (a1 : A1) (a2 : A2) (a3 : A3) (a4 : A4) (a5 : A5) (σ : Mem), I a1 a2 a3 a4 a5 σ → μ a1 a2 a3 a4 a5 σ < n → it5 F n a1 a2 a3 a4 a5 σ := by
    intro n
    induction n with
    | zero => intro a1 a2 a3 a4 a5 σ _ h; exact absurd h (Nat.not_lt_zero _)
    | succ n ih =>
      intro a1 a2 a3 a4 a5 σ hI hm
      exact hs (it5 F n) a1 a2 a3 a4 a5 σ hI (fun b1 b2 b3 b4 b5 σ' h1 h2 => ih b1 b2 b3 b4 b5 σ' h1 (by omega))
  exact ⟨_, key (μ a1 a2 a3 a4 a5 σ + 1) a1 a2 a3 a4 a5 σ h (Nat.lt_succ_self _)⟩
def it6 {A1 A2 A3 A4 A5 A6 : Type} (F : (A1 → A2 → A3 → A4 → A5 → A6 → Mem → Prop) → A1 → A2 → A3 → A4 → A5 → A6 → Mem → Prop) : Nat → A1 → A2 → A3 → A4 → A5 → A6 → Mem → Prop
  | 0 => fun _ _ _ _ _ _ _ => False
  | n + 1 => F (it6 F n)
theorem it6_walk {A1 A2 A3 A4 A5 A6 : Type} {F : (A1 → A2 → A3 → A4 → A5 → A6 → Mem → Prop) → A1 → A2 → A3 → A4 → A5 → A6 → Mem → Prop} {T : A1 → A2 → A3 → A4 → A5 → A6 → Mem → Prop} (hs : ∀ k : A1 → A2 → A3 → A4 → A5 → A6 → Mem → Prop, (∀ (a1 : A1) (a2 : A2) (a3 : A3) (a4 : A4) (a5 : A5) (a6 : A6) (σ : Mem), k a1 a2 a3 a4 a5 a6 σ → T a1 a2 a3 a4 a5 a6 σ) → ∀ (a1 : A1) (a2 : A2) (a3 : A3) (a4 : A4) (a5 : A5) (a6 : A6) (σ : Mem), F k a1 a2 a3 a4 a5 a6 σ → T a1 a2 a3 a4 a5 a6 σ) : ∀ (n : Nat) (a1 : A1) (a2 : A2) (a3 : A3) (a4 : A4) (a5 : A5) (a6 : A6) (σ : Mem), it6 F n a1 a2 a3 a4 a5 a6 σ → T a1 a2 a3 a4 a5 a6 σ
  | 0, _, _, _, _, _, _, _ => fun h => absurd h id
  | n + 1, a1, a2, a3, a4, a5, a6, σ => hs (it6 F n) (it6_walk hs n) a1 a2 a3 a4 a5 a6 σ
theorem it6_ind {A1 A2 A3 A4 A5 A6 : Type} {F : (A1 → A2 → A3 → A4 → A5 → A6 → Mem → Prop) → A1 → A2 → A3 → A4 → A5 → A6 → Mem → Prop} (I : A1 → A2 → A3 → A4 → A5 → A6 → Mem → Prop) (μ : A1 → A2 → A3 → A4 → A5 → A6 → Mem → Nat) (hs : ∀ (k : A1 → A2 → A3 → A4 → A5 → A6 → Mem → Prop) (a1 : A1) (a2 : A2) (a3 : A3) (a4 : A4) (a5 : A5) (a6 : A6) (σ : Mem), I a1 a2 a3 a4 a5 a6 σ → (∀ (b1 : A1) (b2 : A2) (b3 : A3) (b4 : A4) (b5 : A5) (b6 : A6) (σ' : Mem), I b1 b2 b3 b4 b5 b6 σ' → μ b1 b2 b3 b4 b5 b6 σ' < μ a1 a2 a3 a4 a5 a6 σ → k b1 b2 b3 b4 b5 b6 σ') → F k a1 a2 a3 a4 a5 a6 σ) (a1 : A1) (a2 : A2) (a3 : A3) (a4 : A4) (a5 : A5) (a6 : A6) (σ : Mem) (h : I a1 a2 a3 a4 a5 a6 σ) : ∃ n, it6 F n a1 a2 a3 a4 a5 a6 σ := by
  have key : ∀ (n : Nat) (a1 : A1) (a2 : A2) (a3 : A3) (a4 : A4) (a5 : A5) (a6 : A6) (σ : Mem), I a1 a2 a3 a4 a5 a6 σ → μ a1 a2 a3 a4 a5 a6 σ < n → it6 F n a1 a2 a3 a4 a5 a6 σ := by
    intro n
    induction n with
    | zero => intro a1 a2 a3 a4 a5 a6 σ _ h; exact absurd h (Nat.not_lt_zero _)
    | succ n ih =>
      intro a1 a2 a3 a4 a5 a6 σ hI hm
      exact hs (it6 F n) a1 a2 a3 a4 a5 a6 σ hI (fun b1 b2 b3 b4 b5 b6 σ' h1 h2 => ih b1 b2 b3 b4 b5 b6 σ' h1 (by omega))
  exact ⟨_, key (μ a1 a2 a3 a4 a5 a6 σ + 1) a1 a2 a3 a4 a5 a6 σ h (Nat.lt_succ_self _)⟩
def it7 {A1 A2 A3 A4 A5 A6 A7 : Type} (F : (A1 → A2 → A3 → A4 → A5 → A6 → A7 → Mem → Prop) → A1 → A2 → A3 → A4 → A5 → A6 → A7 → Mem → Prop) : Nat → A1 → A2 → A3 → A4 → A5 → A6 → A7 → Mem → Prop
  | 0 => fun _ _ _ _ _ _ _ _ => False
  | n + 1 => F (it7 F n)
theorem it7_walk {A1 A2 A3 A4 A5 A6 A7 : Type} {F : (A1 → A2 → A3 → A4 → A5 → A6 → A7 → Mem → Prop) → A1 → A2 → A3 → A4 → A5 → A6 → A7 → Mem → Prop} {T : A1 → A2 → A3 → A4 → A5 → A6 → A7 → Mem → Prop} (hs : ∀ k : A1 → A2 → A3 → A4 → A5 → A6 → A7 → Mem → Prop, (∀ (a1 : A1) (a2 : A2) (a3 : A3) (a4 : A4) (a5 : A5) (a6 : A6) (a7 : A7) (σ : Mem), k a1 a2 a3 a4 a5 a6 a7 σ → T a1 a2 a3 a4 a5 a6 a7 σ) → ∀ (a1 : A1) (a2 : A2) (a3 : A3) (a4 : A4) (a5 : A5) (a6 : A6) (a7 : A7) (σ : Mem), F k a1 a2 a3 a4 a5 a6 a7 σ → T a1 a2 a3 a4 a5 a6 a7 σ) : ∀ (n : Nat) (a1 : A1) (a2 : A2) (a3 : A3) (a4 : A4) (a5 : A5) (a6 : A6) (a7 : A7) (σ : Mem), it7 F n a1 a2 a3 a4 a5 a6 a7 σ → T a1 a2 a3 a4 a5 a6 a7 σ
  | 0, _, _, _, _, _, _, _, _ => fun h => absurd h id
  | n + 1, a1, a2, a3, a4, a5, a6, a7, σ => hs (it7 F n) (it7_walk hs n) a1 a2 a3 a4 a5 a6 a7 σ
theorem it7_ind {A1 A2 A3 A4 A5 A6 A7 : Type} {F : (A1 → A2 → A3 → A4 → A5 → A6 → A7 → Mem → Prop) → A1 → A2 → A3 → A4 → A5 → A6 → A7 → Mem → Prop} (I : A1 → A2 → A3 → A4 → A5 → A6 → A7 → Mem → Prop) (μ : A1 → A2 → A3 → A4 → A5 → A6 → A7 → Mem → Nat) (hs : ∀ (k : A1 → A2 → A3 → A4 → A5 → A6 → A7 → Mem → Prop) (a1 : A1) (a2 : A2) (a3 : A3) (a4 : A4) (a5 : A5) (a6 : A6) (a7 : A7) (σ : Mem), I a1 a2 a3 a4 a5 a6 a7 σ → (∀ (b1 : A1) (b2 : A2) (b3 : A3) (b4 : A4) (b5 : A5) (b6 : A6) (b7 : A7) (σ' : Mem), I b1 b2 b3 b4 b5 b6 b7 σ' → μ b1 b2 b3 b4 b5 b6 b7 σ' < μ a1 a2 a3 a4 a5 a6 a7 σ → k b1 b2 b3 b4 b5 b6 b7 σ') → F k a1 a2 a3 a4 a5 a6 a7 σ) (a1 : A1) (a2 : A2) (a3 : A3) (a4 : A4) (a5 : A5) (a6 : A6) (a7 : A7) (σ : Mem) (h : I a1 a2 a3 a4 a5 a6 a7 σ) : ∃ n, it7 F n a1 a2 a3 a4 a5 a6 a7 σ := by
  have key : ∀ (n : Nat) (a1 : A1) (a2 : A2) (a3 : A3) (a4 : A4) (a5 : A5) (a6 : A6) (a7 : A7) (σ : Mem), I a1 a2 a3 a4 a5 a6 a7 σ → μ a1 a2 a3 a4 a5 a6 a7 σ < n → it7 F n a1 a2 a3 a4 a5 a6 a7 σ := by
    intro n
    induction n with
    | zero => intro a1 a2 a3 a4 a5 a6 a7 σ _ h; exact absurd h (Nat.not_lt_zero _)
    | succ n ih =>
      intro a1 a2 a3 a4 a5 a6 a7 σ hI hm
      exact hs (it7 F n) a1 a2 a3 a4 a5 a6 a7 σ hI (fun b1 b2 b3 b4 b5 b6 b7 σ' h1 h2 => ih b1 b2 b3 b4 b5 b6 b7 σ' h1 (by omega))
  exact ⟨_, key (μ a1 a2 a3 a4 a5 a6 a7 σ + 1) a1 a2 a3 a4 a5 a6 a7 σ h (Nat.lt_succ_self _)⟩
def it8 {A1 A2 A3 A4 A5 A6 A7 A8 : Type} (F : (A1 → A2 → A3 → A4 → A5 → A6 → A7 → A8 → Mem → Prop) → A1 → A2 → A3 → A4 → A5 → A6 → A7 → A8 → Mem → Prop) : Nat → A1 → A2 → A3 → A4 → A5 → A6 → A7 → A8 → Mem → Prop
  | 0 => fun _ _ _ _ _ _ _ _ _ => False
  | n + 1 => F (it8 F n)
theorem it8_walk {A1 A2 A3 A4 A5 A6 A7 A8 : Type} {F : (A1 → A2 → A3 → A4 → A5 → A6 → A7 → A8 → Mem → Prop) → A1 → A2 → A3 → A4 → A5 → A6 → A7 → A8 → Mem → Prop} {T : A1 → A2 → A3 → A4 → A5 → A6 → A7 → A8 → Mem → Prop} (hs : ∀ k : A1 → A2 → A3 → A4 → A5 → A6 → A7 → A8 → Mem → Prop, (∀ (a1 : A1) (a2 : A2) (a3 : A3) (a4 : A4) (a5 : A5) (a6 : A6) (a7 : A7) (a8 : A8) (σ : Mem), k a1 a2 a3 a4 a5 a6 a7 a8 σ → T a1 a2 a3 a4 a5 a6 a7 a8 σ) → ∀ (a1 : A1) (a2 : A2) (a3 : A3) (a4 : A4) (a5 : A5) (a6 : A6) (a7 : A7) (a8 : A8) (σ : Mem), F k a1 a2 a3 a4 a5 a6 a7 a8 σ → T a1 a2 a3 a4 a5 a6 a7 a8 σ) : ∀ (n : Nat) (a1 : A1) (a2 : A2) (a3 : A3) (a4 : A4) (a5 : A5) (a6 : A6) (a7 : A7) (a8 : A8) (σ : Mem), it8 F n a1 a2 a3 a4 a5 a6 a7 a8 σ → T a1 a2 a3 a4 a5 a6 a7 a8 σ
  | 0, _, _, _, _, _, _, _, _, _ => fun h => absurd h id
  | n + 1, a1, a2, a3, a4, a5, a6, a7, a8, σ => hs (it8 F n) (it8_walk hs n) a1 a2 a3 a4 a5 a6 a7 a8 σ
theorem it8_ind {A1 A2 A3 A4 A5 A6 A7 A8 : Type} {F : (A1 → A2 → A3 → A4 → A5 → A6 → A7 → A8 → Mem → Prop) → A1 → A2 → A3 → A4 → A5 → A6 → A7 → A8 → Mem → Prop} (I : A1 → A2 → A3 → A4 → A5 → A6 → A7 → A8 → Mem → Prop) (μ : A1 → A2 → A3 → A4 → A5 → A6 → A7 → A8 → Mem → Nat) (hs : ∀ (k : A1 → A2 → A3 → A4 → A5 → A6 → A7 → A8 → Mem → Prop) (a1 : A1) (a2 : A2) (a3 : A3) (a4 : A4) (a5 : A5) (a6 : A6) (a7 : A7) (a8 : A8) (σ : Mem), I a1 a2 a3 a4 a5 a6 a7 a8 σ → (∀ (b1 : A1) (b2 : A2) (b3 : A3) (b4 : A4) (b5 : A5) (b6 : A6) (b7 : A7) (b8 : A8) (σ' : Mem), I b1 b2 b3 b4 b5 b6 b7 b8 σ' → μ b1 b2 b3 b4 b5 b6 b7 b8 σ' < μ a1 a2 a3 a4 a5 a6 a7 a8 σ → k b1 b2 b3 b4 b5 b6 b7 b8 σ') → F k a1 a2 a3 a4 a5 a6 a7 a8 σ) (a1 : A1) (a2 : A2) (a3 : A3) (a4 : A4) (a5 : A5) (a6 : A6) (a7 : A7) (a8 : A8) (σ : Mem) (h : I a1 a2 a3 a4 a5 a6 a7 a8 σ) : ∃ n, it8 F n a1 a2 a3 a4 a5 a6 a7 a8 σ := by
  have key : ∀ (n : Nat) (a1 : A1) (a2 : A2) (a3 : A3) (a4 : A4) (a5 : A5) (a6 : A6) (a7 : A7) (a8 : A8) (σ : Mem), I a1 a2 a3 a4 a5 a6 a7 a8 σ → μ a1 a2 a3 a4 a5 a6 a7 a8 σ < n → it8 F n a1 a2 a3 a4 a5 a6 a7 a8 σ := by
    intro n
    induction n with
    | zero => intro a1 a2 a3 a4 a5 a6 a7 a8 σ _ h; exact absurd h (Nat.not_lt_zero _)
    | succ n ih =>
      intro a1 a2 a3 a4 a5 a6 a7 a8 σ hI hm
      exact hs (it8 F n) a1 a2 a3 a4 a5 a6 a7 a8 σ hI (fun b1 b2 b3 b4 b5 b6 b7 b8 σ' h1 h2 => ih b1 b2 b3 b4 b5 b6 b7 b8 σ' h1 (by omega))
  exact ⟨_, key (μ a1 a2 a3 a4 a5 a6 a7 a8 σ + 1) a1 a2 a3 a4 a5 a6 a7 a8 σ h (Nat.lt_succ_self _)⟩
def it9 {A1 A2 A3 A4 A5 A6 A7 A8 A9 : Type} (F : (A1 → A2 → A3 → A4 → A5 → A6 → A7 → A8 → A9 → Mem → Prop) → A1 → A2 → A3 → A4 → A5 → A6 → A7 → A8 → A9 → Mem → Prop) : Nat → A1 → A2 → A3 → A4 → A5 → A6 → A7 → A8 → A9 → Mem → Prop
  | 0 => fun _ _ _ _ _ _ _ _ _ _ => False
  | n + 1 => F (it9 F n)
theorem it9_walk {A1 A2 A3 A4 A5 A6 A7 A8 A9 : Type} {F : (A1 → A2 → A3 → A4 → A5 → A6 → A7 → A8 → A9 → Mem → Prop) → A1 → A2 → A3 → A4 → A5 → A6 → A7 → A8 → A9 → Mem → Prop} {T : A1 → A2 → A3 → A4 → A5 → A6 → A7 → A8 → A9 → Mem → Prop} (hs : ∀ k : A1 → A2 → A3 → A4 → A5 → A6 → A7 → A8 → A9 → Mem → Prop, (∀ (a1 : A1) (a2 : A2) (a3 : A3) (a4 : A4) (a5 : A5) (a6 : A6) (a7 : A7) (a8 : A8) (a9 : A9) (σ : Mem), k a1 a2 a3 a4 a5 a6 a7 a8 a9 σ → T a1 a2 a3 a4 a5 a6 a7 a8 a9 σ) → ∀ (a1 : A1) (a2 : A2) (a3 : A3) (a4 : A4) (a5 : A5) (a6 : A6) (a7 : A7) (a8 : A8) (a9 : A9) (σ : Mem), F k a1 a2 a3 a4 a5 a6 a7 a8 a9 σ → T a1 a2 a3 a4 a5 a6 a7 a8 a9 σ) : ∀ (n : Nat) (a1 : A1) (a2 : A2) (a3 : A3) (a4 : A4) (a5 : A5) (a6 : A6) (a7 : A7) (a8 : A8) (a9 : A9) (σ : Mem), it9 F n a1 a2 a3 a4 a5 a6 a7 a8 a9 σ → T a1 a2 a3 a4 a5 a6 a7 a8 a9 σ
  | 0, _, _, _, _, _, _, _, _, _, _ => fun h => absurd h id
  | n + 1, a1, a2, a3, a4, a5, a6, a7, a8, a9, σ => hs (it9 F n) (it9_walk hs n) a1 a2 a3 a4 a5 a6 a7 a8 a9 σ
theorem it9_ind {A1 A2 A3 A4 A5 A6 A7 A8 A9 : Type} {F : (A1 → A2 → A3 → A4 → A5 → A6 → A7 → A8 → A9 → Mem → Prop) → A1 → A2 → A3 → A4 → A5 → A6 → A7 → A8 → A9 → Mem → Prop} (I : A1 → A2 → A3 → A4 → A5 → A6 → A7 → A8 → A9 → Mem → Prop) (μ : A1 → A2 → A3 → A4 → A5 → A6 → A7 → A8 → A9 → Mem → Nat) (hs : ∀ (k : A1 → A2 → A3 → A4 → A5 → A6 → A7 → A8 → A9 → Mem → Prop) (a1 : A1) (a2 : A2) (a3 : A3) (a4 : A4) (a5 : A5) (a6 : A6) (a7 : A7) (a8 : A8) (a9 : A9) (σ : Mem), I a1 a2 a3 a4 a5 a6 a7 a8 a9 σ → (∀ (b1 : A1) (b2 : A2) (b3 : A3) (b4 : A4) (b5 : A5) (b6 : A6) (b7 : A7) (b8 : A8) (b9 : A9) (σ' : Mem), I b1 b2 b3 b4 b5 b6 b7 b8 b9 σ' → μ b1 b2 b3 b4 b5 b6 b7 b8 b9 σ' < μ a1 a2 a3 a4 a5 a6 a7 a8 a9 σ → k b1 b2 b3 b4 b5 b6 b7 b8 b9 σ') → F k a1 a2 a3 a4 a5 a6 a7 a8 a9 σ) (a1 : A1) (a2 : A2) (a3 : A3) (a4 : A4) (a5 : A5) (a6 : A6) (a7 : A7) (a8 : A8) (a9 : A9) (σ : Mem) (h : I a1 a2 a3 a4 a5 a6 a7 a8 a9 σ) : ∃ n, it9 F n a1 a2 a3 a4 a5 a6 a7 a8 a9 σ := by
  have key : ∀ (n : Nat) (a1 : A1) (a2 : A2) (a3 : A3) (a4 : A4) (a5 : A5) (a6 : A6) (a7 : A7) (a8 : A8) (a9 : A9) (σ : Mem), I a1 a2 a3 a4 a5 a6 a7 a8 a9 σ → μ a1 a2 a3 a4 a5 a6 a7 a8 a9 σ < n → it9 F n a1 a2 a3 a4 a5 a6 a7 a8 a9 σ := by
    intro n
    induction n with
    | zero => intro a1 a2 a3 a4 a5 a6 a7 a8 a9 σ _ h; exact absurd h (Nat.not_lt_zero _)
    | succ n ih =>
      intro a1 a2 a3 a4 a5 a6 a7 a8 a9 σ hI hm
      exact hs (it9 F n) a1 a2 a3 a4 a5 a6 a7 a8 a9 σ hI (fun b1 b2 b3 b4 b5 b6 b7 b8 b9 σ' h1 h2 => ih b1 b2 b3 b4 b5 b6 b7 b8 b9 σ' h1 (by omega))
  exact ⟨_, key (μ a1 a2 a3 a4 a5 a6 a7 a8 a9 σ + 1) a1 a2 a3 a4 a5 a6 a7 a8 a9 σ h (Nat.lt_succ_self _)⟩
def it10 {A1 A2 A3 A4 A5 A6 A7 A8 A9 A10 : Type} (F : (A1 → A2 → A3 → A4 → A5 → A6 → A7 → A8 → A9 → A10 → Mem → Prop) → A1 → A2 → A3 → A4 → A5 → A6 → A7 → A8 → A9 → A10 → Mem → Prop) : Nat → A1 → A2 → A3 → A4 → A5 → A6 → A7 → A8 → A9 → A10 → Mem → Prop
  | 0 => fun _ _ _ _ _ _ _ _ _ _ _ => False
  | n + 1 => F (it10 F n)
theorem it10_walk {A1 A2 A3 A4 A5 A6 A7 A8 A9 A10 : Type} {F : (A1 → A2 → A3 → A4 → A5 → A6 → A7 → A8 → A9 → A10 → Mem → Prop) → A1 → A2 → A3 → A4 → A5 → A6 → A7 → A8 → A9 → A10 → Mem → Prop} {T : A1 → A2 → A3 → A4 → A5 → A6 → A7 → A8 → A9 → A10 → Mem → Prop} (hs : ∀ k : A1 → A2 → A3 → A4 → A5 → A6 → A7 → A8 → A9 → A10 → Mem → Prop, (∀ (a1 : A1) (a2 : A2) (a3 : A3) (a4 : A4) (a5 : A5) (a6 : A6) (a7 : A7) (a8 : A8) (a9 : A9) (a10 : A10) (σ : Mem), k a1 a2 a3 a4 a5 a6 a7 a8 a9 a10 σ → T a1 a2 a3 a4 a5 a6 a7 a8 a9 a10 σ) → ∀ (a1 : A1) (a2 : A2) (a3 : A3) (a4 : A4) (a5 : A5) (a6 : A6) (a7 : A7) (a8 : A8) (a9 : A9) (a10 : A10) (σ : Mem), F k a1 a2 a3 a4 a5 a6 a7 a8 a9 a10 σ → T a1 a2 a3 a4 a5 a6 a7 a8 a9 a10 σ) : ∀ (n : Nat) (a1 : A1) (a2 : A2) (a3 : A3) (a4 : A4) (a5 : A5) (a6 : A6) (a7 : A7) (a8 : A8) (a9 : A9) (a10 : A10) (σ : Mem), it10 F n a1 a2 a3 a4 a5 a6 a7 a8 a9 a10 σ → T a1 a2 a3 a4 a5 a6 a7 a8 a9 a10 σ
  | 0, _, _, _, _, _, _, _, _, _, _, _ => fun h => absurd h id
  | n + 1, a1, a2, a3, a4, a5, a6, a7, a8, a9, a10, σ => hs (it10 F n) (it10_walk hs n) a1 a2 a3 a4 a5 a6 a7 a8 a9 a10 σ
theorem it10_ind {A1 A2 A3 A4 A5 A6 A7 A8 A9 A10 : Type} {F : (A1 → A2 → A3 → A4 → A5 → A6 → A7 → A8 → A9 → A10 → Mem → Prop) → A1 → A2 → A3 → A4 → A5 → A6 → A7 → A8 → A9 → A10 → Mem → Prop} (I : A1 → A2 → A3 → A4 → A5 → A6 → A7 → A8 → A9 → A10 → Mem → Prop) (μ : A1 → A2 → A3 → A4 → A5 → A6 → A7 → A8 → A9 → A10 → Mem → Nat) (hs : ∀ (k : A1 → A2 → A3 → A4 → A5 → A6 → A7 → A8 → A9 → A10 → Mem → Prop) (a1 : A1) (a2 : A2) (a3 : A3) (a4 : A4) (a5 : A5) (a6 : A6) (a7 : A7) (a8 : A8) (a9 : A9) (a10 : A10) (σ : Mem), I a1 a2 a3 a4 a5 a6 a7 a8 a9 a10 σ → (∀ (b1 : A1) (b2 : A2) (b3 : A3) (b4 : A4) (b5 : A5) (b6 : A6) (b7 : A7) (b8 : A8) (b9 : A9) (b10 : A10) (σ' : Mem), I b1 b2 b3 b4 b5 b6 b7 b8 b9 b10 σ' → μ b1 b2 b3 b4 b5 b6 b7 b8 b9 b10 σ' < μ a1 a2 a3 a4 a5 a6 a7 a8 a9 a10 σ → k b1 b2 b3 b4 b5 b6 b7 b8 b9 b10 σ') → F k a1 a2 a3 a4 a5 a6 a7 a8 a9 a10 σ) (a1 : A1) (a2 : A2) (a3 : A3) (a4 : A4) (a5 : A5) (a6 : A6) (a7 : A7) (a8 : A8) (a9 : A9) (a10 : A10) (σ : Mem) (h : I a1 a2 a3 a4 a5 a6 a7 a8 a9 a10 σ) : ∃ n, it10 F n a1 a2 a3 a4 a5 a6 a7 a8 a9 a10 σ := by
  have key : ∀ (n : Nat) (a1 : A1) (a2 : A2) (a3 : A3) (a4 : A4) (a5 : A5) (a6 : A6) (a7 : A7) (a8 : A8) (a9 : A9) (a10 : A10) (σ : Mem), I a1 a2 a3 a4 a5 a6 a7 a8 a9 a10 σ → μ a1 a2 a3 a4 a5 a6 a7 a8 a9 a10 σ < n → it10 F n a1 a2 a3 a4 a5 a6 a7 a8 a9 a10 σ := by
    intro n
    induction n with
    | zero => intro a1 a2 a3 a4 a5 a6 a7 a8 a9 a10 σ _ h; exact absurd h (Nat.not_lt_zero _)
    | succ n ih =>
      intro a1 a2 a3 a4 a5 a6 a7 a8 a9 a10 σ hI hm
      exact hs (it10 F n) a1 a2 a3 a4 a5 a6 a7 a8 a9 a10 σ hI (fun b1 b2 b3 b4 b5 b6 b7 b8 b9 b10 σ' h1 h2 => ih b1 b2 b3 b4 b5 b6 b7 b8 b9 b10 σ' h1 (by omega))
  exact ⟨_, key (μ a1 a2 a3 a4 a5 a6 a7 a8 a9 a10 σ + 1) a1 a2 a3 a4 a5 a6 a7 a8 a9 a10 σ h (Nat.lt_succ_self _)⟩
end
section
/-! the words by their places in the tables -/
theorem m_0 : Cond.selects RX2 yX2_nextToken yX2_nextToken ∈ TT := mTT 0 (by decide +kernel) rfl
theorem m_1 : Cond.selects RX2 yX2_takeName yX2_takeName ∈ TT := mTT 1 (by decide +kernel) rfl
theorem m_2 : Cond.selects RX2 yX2_takeNumber yX2_takeNumber ∈ TT := mTT 2 (by decide +kernel) rfl
theorem m_3 : Cond.selects RX2 yX2_takeLine yX2_takeLine ∈ TT := mTT 3 (by decide +kernel) rfl
theorem m_4 : Cond.selects RX2 yX2_lineOfName yX2_lineOfName ∈ TT := mTT 4 (by decide +kernel) rfl
theorem m_5 : Cond.selects RX2 yX2_tokenIs yX2_tokenIs ∈ TT := mTT 5 (by decide +kernel) rfl
theorem m_6 : Cond.selects RX2 yX2_takeWheelLine yX2_takeWheelLine ∈ TT := mTT 6 (by decide +kernel) rfl
theorem m_7 : Cond.selects RX2 yX2_numberWithin yX2_numberWithin ∈ TT := mTT 7 (by decide +kernel) rfl
theorem m_8 : Cond.selects RX2 yX2_takeStop yX2_takeStop ∈ TT := mTT 8 (by decide +kernel) rfl
theorem m_9 : Cond.selects RX2 yX2_takeShaftLine yX2_takeShaftLine ∈ TT := mTT 9 (by decide +kernel) rfl
theorem m_10 : Cond.selects RX2 yX2_takeActLine yX2_takeActLine ∈ TT := mTT 10 (by decide +kernel) rfl
theorem m_11 : Cond.selects RX3 yX3_addAct yX3_addAct ∈ TT := mTT 11 (by decide +kernel) rfl
theorem m_12 : Cond.selects RX0 yX0_takeLoad yX0_takeLoad ∈ TT := mTT 12 (by decide +kernel) rfl
theorem m_13 : Cond.selects RX0 yX0_joinWheel yX0_joinWheel ∈ TT := mTT 13 (by decide +kernel) rfl
theorem m_14 : Cond.selects RX3 yX3_doneAsItIs yX3_doneAsItIs ∈ TT := mTT 14 (by decide +kernel) rfl
theorem m_15 : Cond.selects RX3 yX3_doneSwapped yX3_doneSwapped ∈ TT := mTT 15 (by decide +kernel) rfl
theorem m_16 : Cond.selects RX3 yX3_runFailing yX3_runFailing ∈ TT := mTT 16 (by decide +kernel) rfl
theorem m_17 : Cond.selects RX3 yX3_trialGoesAsSeen yX3_trialGoesAsSeen ∈ TT := mTT 17 (by decide +kernel) rfl
theorem m_18 : Cond.selects RX3 yX3_trialIsAsSeen yX3_trialIsAsSeen ∈ TT := mTT 18 (by decide +kernel) rfl
theorem m_19 : Cond.selects RX3 yX3_fittingLosses yX3_fittingLosses ∈ TT := mTT 19 (by decide +kernel) rfl
theorem m_20 : Cond.selects RX3 yX3_lookAhead yX3_lookAhead ∈ TT := mTT 20 (by decide +kernel) rfl
theorem m_21 : Cond.selects RX3 yX3_leftAtWorst yX3_leftAtWorst ∈ TT := mTT 21 (by decide +kernel) rfl
theorem m_22 : Cond.selects RX3 yX3_lossesLookingLike yX3_lossesLookingLike ∈ TT := mTT 22 (by decide +kernel) rfl
theorem m_23 : Cond.selects RX4 yX4_readsOn yX4_readsOn ∈ TT := mTT 23 (by decide +kernel) rfl
theorem m_24 : Cond.selects RX4 yX4_byteAt yX4_byteAt ∈ TT := mTT 24 (by decide +kernel) rfl
theorem m_25 : Cond.selects RX4 yX4_fails yX4_fails ∈ TT := mTT 25 (by decide +kernel) rfl
theorem m_26 : Cond.selects RX4 yX4_readLine yX4_readLine ∈ TT := mTT 26 (by decide +kernel) rfl
theorem m_27 : Cond.selects RX4 yX4_nameHere yX4_nameHere ∈ TT := mTT 27 (by decide +kernel) rfl
theorem m_28 : Cond.selects RX4 yX4_readMore yX4_readMore ∈ TT := mTT 28 (by decide +kernel) rfl
theorem m_29 : Cond.selects RX4 yX4_number yX4_number ∈ TT := mTT 29 (by decide +kernel) rfl
theorem m_30 : Cond.selects RX4 yX4_speedOn yX4_speedOn ∈ TT := mTT 30 (by decide +kernel) rfl
theorem m_31 : Cond.selects RX4 yX4_isWheel yX4_isWheel ∈ TT := mTT 31 (by decide +kernel) rfl
theorem m_32 : Cond.selects RX4 yX4_joinedOn yX4_joinedOn ∈ TT := mTT 32 (by decide +kernel) rfl
theorem m_33 : Cond.selects RX4 yX4_isAct yX4_isAct ∈ TT := mTT 33 (by decide +kernel) rfl
theorem m_34 : Cond.selects RX4 yX4_puts yX4_puts ∈ TT := mTT 34 (by decide +kernel) rfl
theorem m_35 : Cond.selects RX4 yX4_adds yX4_adds ∈ TT := mTT 35 (by decide +kernel) rfl
theorem m_36 : Cond.selects RX4 yX4_actOn yX4_actOn ∈ TT := mTT 36 (by decide +kernel) rfl
theorem m_37 : Cond.selects RX4 yX4_tickOn yX4_tickOn ∈ TT := mTT 37 (by decide +kernel) rfl
theorem m_38 : Cond.selects RX4 yX4_lossesOn yX4_lossesOn ∈ TT := mTT 38 (by decide +kernel) rfl
theorem m_39 : Cond.selects RX4 yX4_ticksGo yX4_ticksGo ∈ TT := mTT 39 (by decide +kernel) rfl
theorem m_40 : Cond.selects RX4 yX4_copies yX4_copies ∈ TT := mTT 40 (by decide +kernel) rfl
theorem m_41 : Cond.selects RX4 yX4_lackThen yX4_lackThen ∈ TT := mTT 41 (by decide +kernel) rfl
theorem m_42 : Cond.selects RX4 yX4_swingOn yX4_swingOn ∈ TT := mTT 42 (by decide +kernel) rfl
theorem m_43 : Cond.selects RX4 yX4_mostAt yX4_mostAt ∈ TT := mTT 43 (by decide +kernel) rfl
theorem m_44 : Cond.selects RX4 yX4_byFails yX4_byFails ∈ TT := mTT 44 (by decide +kernel) rfl
theorem m_45 : Cond.selects RX4 yX4_numbersAt yX4_numbersAt ∈ TT := mTT 45 (by decide +kernel) rfl
theorem m_46 : Cond.selects RX4 yX4_isAsSeen yX4_isAsSeen ∈ TT := mTT 46 (by decide +kernel) rfl
theorem m_47 : Cond.selects RX4 yX4_worstAt yX4_worstAt ∈ TT := mTT 47 (by decide +kernel) rfl
theorem m_48 : Cond.initialized RL ∈ TT := mTT 48 (by decide +kernel) rfl
theorem m_49 : Cond.initialized RX3 ∈ TT := mTT 49 (by decide +kernel) rfl
theorem m_50 : Cond.initialized RX0 ∈ TT := mTT 50 (by decide +kernel) rfl
theorem m_51 : Cond.initialized RX2 ∈ TT := mTT 51 (by decide +kernel) rfl
theorem m_52 : Cond.initialized RX1 ∈ TT := mTT 52 (by decide +kernel) rfl
theorem m_53 : Cond.initialized RX4 ∈ TT := mTT 53 (by decide +kernel) rfl
theorem m_54 : Cond.initialized RJ0 ∈ TT := mTT 54 (by decide +kernel) rfl
theorem m_55 : Cond.initialized RJ1 ∈ TT := mTT 55 (by decide +kernel) rfl
theorem m_56 : Cond.initialized RJ3 ∈ TT := mTT 56 (by decide +kernel) rfl
theorem m_57 : Cond.initialized RJ2 ∈ TT := mTT 57 (by decide +kernel) rfl
theorem m_58 : Cond.initialized RJ9 ∈ TT := mTT 58 (by decide +kernel) rfl
theorem m_59 : Cond.initialized RJ6 ∈ TT := mTT 59 (by decide +kernel) rfl
theorem m_60 : Cond.classLink RL 7 RX3 ∈ TT := mTT 60 (by decide +kernel) rfl
theorem m_61 : Cond.instantiable RX3 14 ∈ TT := mTT 61 (by decide +kernel) rfl
theorem m_62 : Cond.methodLink RL 9 yX3_init ∈ TT := mTT 62 (by decide +kernel) rfl
theorem m_63 : Cond.instanceMethod yX3_init ∈ TT := mTT 63 (by decide +kernel) rfl
theorem m_64 : Cond.code yX3_init cX3_init 2 none ∈ TT := mTT 64 (by decide +kernel) rfl
theorem m_65 : Cond.methodLink RX3 1 objectInit ∈ TT := mTT 65 (by decide +kernel) rfl
theorem m_66 : Cond.instanceMethod objectInit ∈ TT := mTT 66 (by decide +kernel) rfl
theorem m_67 : Cond.code objectInit object_method_1_code 1 none ∈ TT := mTT 67 (by decide +kernel) rfl
theorem m_68 : Cond.classLink RX3 7 RX0 ∈ TT := mTT 68 (by decide +kernel) rfl
theorem m_69 : Cond.instantiable RX0 13 ∈ TT := mTT 69 (by decide +kernel) rfl
theorem m_71 : Cond.instanceMethod yX0_init ∈ TT := mTT 71 (by decide +kernel) rfl
theorem m_72 : Cond.code yX0_init cX0_init 1 none ∈ TT := mTT 72 (by decide +kernel) rfl
theorem m_73 : Cond.methodLink RX0 3 objectInit ∈ TT := mTT 73 (by decide +kernel) rfl
theorem m_74 : Cond.fieldLink RX0 9 RX0 "shaftMass" "I" ∈ TT := mTT 74 (by decide +kernel) rfl
theorem m_75 : Cond.fieldLink RX3 104 RX0 "shaftMass" "I" ∈ TT := mTT 75 (by decide +kernel) rfl
theorem m_76 : Cond.fieldLink RX2 91 RX0 "shaftMass" "I" ∈ TT := mTT 76 (by decide +kernel) rfl
theorem m_77 : Cond.fieldLink RX0 15 RX0 "shaftSwing" "I" ∈ TT := mTT 77 (by decide +kernel) rfl
theorem m_78 : Cond.fieldLink RX3 107 RX0 "shaftSwing" "I" ∈ TT := mTT 78 (by decide +kernel) rfl
theorem m_79 : Cond.fieldLink RX0 18 RX0 "wheels" "I" ∈ TT := mTT 79 (by decide +kernel) rfl
theorem m_80 : Cond.fieldLink RX3 89 RX0 "wheels" "I" ∈ TT := mTT 80 (by decide +kernel) rfl
theorem m_81 : Cond.fieldLink RX2 77 RX0 "wheels" "I" ∈ TT := mTT 81 (by decide +kernel) rfl
theorem m_82 : Cond.fieldLink RX0 21 RX0 "kinds" "[I" ∈ TT := mTT 82 (by decide +kernel) rfl
theorem m_83 : Cond.fieldLink RX3 121 RX0 "kinds" "[I" ∈ TT := mTT 83 (by decide +kernel) rfl
theorem m_84 : Cond.fieldLink RX0 25 RX0 "masses" "[I" ∈ TT := mTT 84 (by decide +kernel) rfl
theorem m_85 : Cond.fieldLink RX3 124 RX0 "masses" "[I" ∈ TT := mTT 85 (by decide +kernel) rfl
theorem m_86 : Cond.fieldLink RX0 28 RX0 "losses" "[I" ∈ TT := mTT 86 (by decide +kernel) rfl
theorem m_87 : Cond.fieldLink RX3 127 RX0 "losses" "[I" ∈ TT := mTT 87 (by decide +kernel) rfl
theorem m_88 : Cond.fieldLink RX0 31 RX0 "swings" "[I" ∈ TT := mTT 88 (by decide +kernel) rfl
theorem m_89 : Cond.fieldLink RX3 130 RX0 "swings" "[I" ∈ TT := mTT 89 (by decide +kernel) rfl
theorem m_90 : Cond.fieldLink RX0 34 RX0 "acts" "I" ∈ TT := mTT 90 (by decide +kernel) rfl
theorem m_91 : Cond.fieldLink RX3 92 RX0 "acts" "I" ∈ TT := mTT 91 (by decide +kernel) rfl
theorem m_92 : Cond.fieldLink RX2 94 RX0 "acts" "I" ∈ TT := mTT 92 (by decide +kernel) rfl
theorem m_93 : Cond.fieldLink RX0 37 RX0 "plan" "[I" ∈ TT := mTT 93 (by decide +kernel) rfl
theorem m_94 : Cond.fieldLink RX3 143 RX0 "plan" "[I" ∈ TT := mTT 94 (by decide +kernel) rfl
theorem m_95 : Cond.fieldLink RX0 40 RX0 "tick" "I" ∈ TT := mTT 95 (by decide +kernel) rfl
theorem m_96 : Cond.fieldLink RX3 95 RX0 "tick" "I" ∈ TT := mTT 96 (by decide +kernel) rfl
theorem m_97 : Cond.fieldLink RX0 43 RX0 "done" "I" ∈ TT := mTT 97 (by decide +kernel) rfl
theorem m_98 : Cond.fieldLink RX3 98 RX0 "done" "I" ∈ TT := mTT 98 (by decide +kernel) rfl
theorem m_99 : Cond.fieldLink RX0 46 RX0 "lack" "I" ∈ TT := mTT 99 (by decide +kernel) rfl
theorem m_100 : Cond.fieldLink RX3 101 RX0 "lack" "I" ∈ TT := mTT 100 (by decide +kernel) rfl
theorem m_101 : Cond.fieldLink RX0 49 RX0 "lost" "I" ∈ TT := mTT 101 (by decide +kernel) rfl
theorem m_102 : Cond.fieldLink RX3 175 RX0 "lost" "I" ∈ TT := mTT 102 (by decide +kernel) rfl
theorem m_130 : Cond.arrayClass .int ∈ TT := mTT 130 (by decide +kernel) rfl
theorem m_132 : Cond.classLink RX3 30 RX2 ∈ TT := mTT 132 (by decide +kernel) rfl
theorem m_133 : Cond.instantiable RX2 8 ∈ TT := mTT 133 (by decide +kernel) rfl
theorem m_135 : Cond.instanceMethod yX2_init ∈ TT := mTT 135 (by decide +kernel) rfl
theorem m_136 : Cond.code yX2_init cX2_init 1 none ∈ TT := mTT 136 (by decide +kernel) rfl
theorem m_137 : Cond.methodLink RX2 3 objectInit ∈ TT := mTT 137 (by decide +kernel) rfl
theorem m_138 : Cond.fieldLink RX2 9 RX2 "bytes" "[I" ∈ TT := mTT 138 (by decide +kernel) rfl
theorem m_139 : Cond.fieldLink RX2 15 RX2 "length" "I" ∈ TT := mTT 139 (by decide +kernel) rfl
theorem m_140 : Cond.fieldLink RX3 75 RX2 "length" "I" ∈ TT := mTT 140 (by decide +kernel) rfl
theorem m_141 : Cond.fieldLink RX2 19 RX2 "wrong" "I" ∈ TT := mTT 141 (by decide +kernel) rfl
theorem m_142 : Cond.fieldLink RX3 82 RX2 "wrong" "I" ∈ TT := mTT 142 (by decide +kernel) rfl
theorem m_143 : Cond.fieldLink RX2 22 RX2 "at" "I" ∈ TT := mTT 143 (by decide +kernel) rfl
theorem m_144 : Cond.fieldLink RX2 25 RX2 "token" "I" ∈ TT := mTT 144 (by decide +kernel) rfl
theorem m_145 : Cond.fieldLink RX2 28 RX2 "place" "I" ∈ TT := mTT 145 (by decide +kernel) rfl
theorem m_146 : Cond.fieldLink RX2 31 RX2 "number" "I" ∈ TT := mTT 146 (by decide +kernel) rfl
theorem m_147 : Cond.fieldLink RX2 34 RX2 "shaftTold" "Z" ∈ TT := mTT 147 (by decide +kernel) rfl
theorem m_165 : Cond.arrayClass .boolean ∈ TT := mTT 165 (by decide +kernel) rfl
theorem m_166 : Cond.classLink RX3 37 RX1 ∈ TT := mTT 166 (by decide +kernel) rfl
theorem m_168 : Cond.instantiable RX1 4 ∈ TT := mTT 168 (by decide +kernel) rfl
theorem m_170 : Cond.instanceMethod yX1_init ∈ TT := mTT 170 (by decide +kernel) rfl
theorem m_171 : Cond.code yX1_init cX1_init 1 none ∈ TT := mTT 171 (by decide +kernel) rfl
theorem m_172 : Cond.methodLink RX1 3 objectInit ∈ TT := mTT 172 (by decide +kernel) rfl
theorem m_173 : Cond.fieldLink RX1 9 RX1 "made" "Z" ∈ TT := mTT 173 (by decide +kernel) rfl
theorem m_174 : Cond.fieldLink RX3 260 RX1 "made" "Z" ∈ TT := mTT 174 (by decide +kernel) rfl
theorem m_175 : Cond.fieldLink RX1 15 RX1 "lane" "I" ∈ TT := mTT 175 (by decide +kernel) rfl
theorem m_176 : Cond.fieldLink RX3 248 RX1 "lane" "I" ∈ TT := mTT 176 (by decide +kernel) rfl
theorem m_177 : Cond.fieldLink RX1 19 RX1 "size" "I" ∈ TT := mTT 177 (by decide +kernel) rfl
theorem m_178 : Cond.fieldLink RX3 264 RX1 "size" "I" ∈ TT := mTT 178 (by decide +kernel) rfl
theorem m_179 : Cond.fieldLink RX1 22 RX1 "cells" "[I" ∈ TT := mTT 179 (by decide +kernel) rfl
theorem m_180 : Cond.fieldLink RX3 257 RX1 "cells" "[I" ∈ TT := mTT 180 (by decide +kernel) rfl
theorem m_190 : Cond.fieldLink RX3 10 RX3 "now" "LFlyWheels$Rig;" ∈ TT := mTT 190 (by decide +kernel) rfl
theorem m_191 : Cond.fieldLink RX3 16 RX3 "trial" "LFlyWheels$Rig;" ∈ TT := mTT 191 (by decide +kernel) rfl
theorem m_192 : Cond.fieldLink RX3 19 RX3 "told" "LFlyWheels$Rig;" ∈ TT := mTT 192 (by decide +kernel) rfl
theorem m_193 : Cond.fieldLink RX3 22 RX3 "images" "[LFlyWheels$Rig;" ∈ TT := mTT 193 (by decide +kernel) rfl
theorem m_194 : Cond.fieldLink RX3 26 RX3 "kept" "[Z" ∈ TT := mTT 194 (by decide +kernel) rfl
theorem m_195 : Cond.fieldLink RX3 33 RX3 "tape" "LFlyWheels$Tape;" ∈ TT := mTT 195 (by decide +kernel) rfl
theorem m_196 : Cond.fieldLink RX3 39 RX3 "sheets" "[LFlyWheels$Sheet;" ∈ TT := mTT 196 (by decide +kernel) rfl
theorem m_197 : Cond.fieldLink RX3 43 RX3 "seenTicks" "[I" ∈ TT := mTT 197 (by decide +kernel) rfl
theorem m_198 : Cond.fieldLink RX3 47 RX3 "seenWheel" "[I" ∈ TT := mTT 198 (by decide +kernel) rfl
theorem m_199 : Cond.fieldLink RX3 50 RX3 "seenSwing" "[I" ∈ TT := mTT 199 (by decide +kernel) rfl
theorem m_200 : Cond.fieldLink RX3 53 RX3 "seenCount" "I" ∈ TT := mTT 200 (by decide +kernel) rfl
theorem m_201 : Cond.fieldLink RX3 57 RX3 "textFault" "I" ∈ TT := mTT 201 (by decide +kernel) rfl
theorem m_202 : Cond.fieldLink RX3 60 RX3 "readFault" "I" ∈ TT := mTT 202 (by decide +kernel) rfl
theorem m_203 : Cond.fieldLink RX3 63 RX3 "looks" "[I" ∈ TT := mTT 203 (by decide +kernel) rfl
theorem m_233 : Cond.methodLink RL 13 yX3_feed ∈ TT := mTT 233 (by decide +kernel) rfl
theorem m_234 : Cond.instanceMethod yX3_feed ∈ TT := mTT 234 (by decide +kernel) rfl
theorem m_235 : Cond.selects RX3 yX3_feed yX3_feed ∈ TT := mTT 235 (by decide +kernel) rfl
theorem m_236 : Cond.code yX3_feed cX3_feed 2 (some .int) ∈ TT := mTT 236 (by decide +kernel) rfl
theorem m_237 : Cond.methodLink RX3 67 yX3_within ∈ TT := mTT 237 (by decide +kernel) rfl
theorem m_238 : Cond.static yX3_within ∈ TT := mTT 238 (by decide +kernel) rfl
theorem m_239 : Cond.code yX3_within cX3_within 3 (some .boolean) ∈ TT := mTT 239 (by decide +kernel) rfl
theorem m_240 : Cond.methodLink RX3 71 yX2_append ∈ TT := mTT 240 (by decide +kernel) rfl
theorem m_241 : Cond.instanceMethod yX2_append ∈ TT := mTT 241 (by decide +kernel) rfl
theorem m_242 : Cond.selects RX2 yX2_append yX2_append ∈ TT := mTT 242 (by decide +kernel) rfl
theorem m_243 : Cond.code yX2_append cX2_append 2 (some .int) ∈ TT := mTT 243 (by decide +kernel) rfl
theorem m_244 : Cond.methodLink RL 18 yX3_end ∈ TT := mTT 244 (by decide +kernel) rfl
theorem m_245 : Cond.instanceMethod yX3_end ∈ TT := mTT 245 (by decide +kernel) rfl
theorem m_246 : Cond.selects RX3 yX3_end yX3_end ∈ TT := mTT 246 (by decide +kernel) rfl
theorem m_247 : Cond.code yX3_end cX3_end 3 (some .int) ∈ TT := mTT 247 (by decide +kernel) rfl
theorem m_248 : Cond.methodLink RL 22 yX3_text ∈ TT := mTT 248 (by decide +kernel) rfl
theorem m_249 : Cond.instanceMethod yX3_text ∈ TT := mTT 249 (by decide +kernel) rfl
theorem m_250 : Cond.selects RX3 yX3_text yX3_text ∈ TT := mTT 250 (by decide +kernel) rfl
theorem m_251 : Cond.code yX3_text cX3_text 3 (some .int) ∈ TT := mTT 251 (by decide +kernel) rfl
theorem m_252 : Cond.methodLink RX3 78 yX2_tell ∈ TT := mTT 252 (by decide +kernel) rfl
theorem m_253 : Cond.instanceMethod yX2_tell ∈ TT := mTT 253 (by decide +kernel) rfl
theorem m_254 : Cond.selects RX2 yX2_tell yX2_tell ∈ TT := mTT 254 (by decide +kernel) rfl
theorem m_255 : Cond.code yX2_tell cX2_tell 3 (some .int) ∈ TT := mTT 255 (by decide +kernel) rfl
theorem m_256 : Cond.methodLink RX2 38 yX0_clear ∈ TT := mTT 256 (by decide +kernel) rfl
theorem m_257 : Cond.instanceMethod yX0_clear ∈ TT := mTT 257 (by decide +kernel) rfl
theorem m_258 : Cond.selects RX0 yX0_clear yX0_clear ∈ TT := mTT 258 (by decide +kernel) rfl
theorem m_259 : Cond.code yX0_clear cX0_clear 1 none ∈ TT := mTT 259 (by decide +kernel) rfl
theorem m_260 : Cond.methodLink RX0 52 yX0_clearSums ∈ TT := mTT 260 (by decide +kernel) rfl
theorem m_261 : Cond.instanceMethod yX0_clearSums ∈ TT := mTT 261 (by decide +kernel) rfl
theorem m_262 : Cond.selects RX0 yX0_clearSums yX0_clearSums ∈ TT := mTT 262 (by decide +kernel) rfl
theorem m_263 : Cond.code yX0_clearSums cX0_clearSums 1 none ∈ TT := mTT 263 (by decide +kernel) rfl
theorem m_264 : Cond.methodLink RX2 43 yX2_nextToken ∈ TT := mTT 264 (by decide +kernel) rfl
theorem m_266 : Cond.instanceMethod yX2_nextToken ∈ TT := mTT 266 (by decide +kernel) rfl
theorem m_267 : Cond.code yX2_nextToken cX2_nextToken 1 none ∈ TT := mTT 267 (by decide +kernel) rfl
theorem m_268 : Cond.methodLink RX2 50 yX2_isLetter ∈ TT := mTT 268 (by decide +kernel) rfl
theorem m_269 : Cond.static yX2_isLetter ∈ TT := mTT 269 (by decide +kernel) rfl
theorem m_270 : Cond.code yX2_isLetter cX2_isLetter 1 (some .boolean) ∈ TT := mTT 270 (by decide +kernel) rfl
theorem m_271 : Cond.methodLink RX2 54 yX2_takeName ∈ TT := mTT 271 (by decide +kernel) rfl
theorem m_273 : Cond.instanceMethod yX2_takeName ∈ TT := mTT 273 (by decide +kernel) rfl
theorem m_274 : Cond.code yX2_takeName cX2_takeName 1 none ∈ TT := mTT 274 (by decide +kernel) rfl
theorem m_275 : Cond.methodLink RX2 57 yX2_isFigure ∈ TT := mTT 275 (by decide +kernel) rfl
theorem m_276 : Cond.static yX2_isFigure ∈ TT := mTT 276 (by decide +kernel) rfl
theorem m_277 : Cond.code yX2_isFigure cX2_isFigure 1 (some .boolean) ∈ TT := mTT 277 (by decide +kernel) rfl
theorem m_278 : Cond.methodLink RX2 60 yX2_takeNumber ∈ TT := mTT 278 (by decide +kernel) rfl
theorem m_280 : Cond.instanceMethod yX2_takeNumber ∈ TT := mTT 280 (by decide +kernel) rfl
theorem m_281 : Cond.code yX2_takeNumber cX2_takeNumber 1 none ∈ TT := mTT 281 (by decide +kernel) rfl
theorem m_282 : Cond.methodLink RX2 46 yX2_takeLine ∈ TT := mTT 282 (by decide +kernel) rfl
theorem m_284 : Cond.instanceMethod yX2_takeLine ∈ TT := mTT 284 (by decide +kernel) rfl
theorem m_285 : Cond.code yX2_takeLine cX2_takeLine 3 none ∈ TT := mTT 285 (by decide +kernel) rfl
theorem m_286 : Cond.methodLink RX2 63 yX2_lineOfName ∈ TT := mTT 286 (by decide +kernel) rfl
theorem m_288 : Cond.instanceMethod yX2_lineOfName ∈ TT := mTT 288 (by decide +kernel) rfl
theorem m_289 : Cond.code yX2_lineOfName cX2_lineOfName 2 (some .int) ∈ TT := mTT 289 (by decide +kernel) rfl
theorem m_290 : Cond.methodLink RX2 108 yX2_nameOfLine ∈ TT := mTT 290 (by decide +kernel) rfl
theorem m_291 : Cond.static yX2_nameOfLine ∈ TT := mTT 291 (by decide +kernel) rfl
theorem m_292 : Cond.code yX2_nameOfLine cX2_nameOfLine 1 (some (.object "java/lang/String")) ∈ TT := mTT 292 (by decide +kernel) rfl
theorem m_301 : Cond.methodLink RX2 112 yX2_tokenIs ∈ TT := mTT 301 (by decide +kernel) rfl
theorem m_303 : Cond.instanceMethod yX2_tokenIs ∈ TT := mTT 303 (by decide +kernel) rfl
theorem m_304 : Cond.code yX2_tokenIs cX2_tokenIs 3 (some .boolean) ∈ TT := mTT 304 (by decide +kernel) rfl
theorem m_305 : Cond.methodLink RX2 132 yJ0_length_8abf5 ∈ TT := mTT 305 (by decide +kernel) rfl
theorem m_306 : Cond.instanceMethod yJ0_length_8abf5 ∈ TT := mTT 306 (by decide +kernel) rfl
theorem m_307 : Cond.selects RJ0 yJ0_length_8abf5 yJ0_length_8abf5 ∈ TT := mTT 307 (by decide +kernel) rfl
theorem m_308 : Cond.code yJ0_length_8abf5 cJ0_length_8abf5 1 (some .int) ∈ TT := mTT 308 (by decide +kernel) rfl
theorem m_309 : Cond.methodLink RJ0 335 yJ0_coder_7d493 ∈ TT := mTT 309 (by decide +kernel) rfl
theorem m_310 : Cond.instanceMethod yJ0_coder_7d493 ∈ TT := mTT 310 (by decide +kernel) rfl
theorem m_311 : Cond.selects RJ0 yJ0_coder_7d493 yJ0_coder_7d493 ∈ TT := mTT 311 (by decide +kernel) rfl
theorem m_312 : Cond.code yJ0_coder_7d493 cJ0_coder_7d493 1 (some .byte) ∈ TT := mTT 312 (by decide +kernel) rfl
theorem m_313 : Cond.fieldLink RJ0 38 RJ0 "COMPACT_STRINGS" "Z" ∈ TT := mTT 313 (by decide +kernel) rfl
theorem m_315 : Cond.methodLink RX2 136 yJ0_charAt_5068e ∈ TT := mTT 315 (by decide +kernel) rfl
theorem m_316 : Cond.instanceMethod yJ0_charAt_5068e ∈ TT := mTT 316 (by decide +kernel) rfl
theorem m_317 : Cond.selects RJ0 yJ0_charAt_5068e yJ0_charAt_5068e ∈ TT := mTT 317 (by decide +kernel) rfl
theorem m_318 : Cond.code yJ0_charAt_5068e cJ0_charAt_5068e 2 (some .char) ∈ TT := mTT 318 (by decide +kernel) rfl
theorem m_319 : Cond.methodLink RJ0 492 yJ0_isLatin1_aae02 ∈ TT := mTT 319 (by decide +kernel) rfl
theorem m_320 : Cond.instanceMethod yJ0_isLatin1_aae02 ∈ TT := mTT 320 (by decide +kernel) rfl
theorem m_321 : Cond.selects RJ0 yJ0_isLatin1_aae02 yJ0_isLatin1_aae02 ∈ TT := mTT 321 (by decide +kernel) rfl
theorem m_322 : Cond.code yJ0_isLatin1_aae02 cJ0_isLatin1_aae02 1 (some .boolean) ∈ TT := mTT 322 (by decide +kernel) rfl
theorem m_323 : Cond.methodLink RJ0 495 yJ1_charAt_3b067 ∈ TT := mTT 323 (by decide +kernel) rfl
theorem m_324 : Cond.static yJ1_charAt_3b067 ∈ TT := mTT 324 (by decide +kernel) rfl
theorem m_325 : Cond.code yJ1_charAt_3b067 cJ1_charAt_3b067 2 (some .char) ∈ TT := mTT 325 (by decide +kernel) rfl
theorem m_326 : Cond.methodLink RJ1 9 yJ0_checkIndex_df160 ∈ TT := mTT 326 (by decide +kernel) rfl
theorem m_327 : Cond.static yJ0_checkIndex_df160 ∈ TT := mTT 327 (by decide +kernel) rfl
theorem m_328 : Cond.code yJ0_checkIndex_df160 cJ0_checkIndex_df160 2 none ∈ TT := mTT 328 (by decide +kernel) rfl
theorem m_329 : Cond.fieldLink RJ0 1053 RJ3 "SIOOBE_FORMATTER" "Ljava/util/function/BiFunction;" ∈ TT := mTT 329 (by decide +kernel) rfl
theorem m_331 : Cond.methodLink RJ0 1059 yJ3_checkIndex_8e157 ∈ TT := mTT 331 (by decide +kernel) rfl
theorem m_332 : Cond.static yJ3_checkIndex_8e157 ∈ TT := mTT 332 (by decide +kernel) rfl
theorem m_333 : Cond.code yJ3_checkIndex_8e157 cJ3_checkIndex_8e157 3 (some .int) ∈ TT := mTT 333 (by decide +kernel) rfl
theorem m_334 : Cond.methodLink RJ0 498 yJ2_charAt_3b067 ∈ TT := mTT 334 (by decide +kernel) rfl
theorem m_335 : Cond.static yJ2_charAt_3b067 ∈ TT := mTT 335 (by decide +kernel) rfl
theorem m_336 : Cond.code yJ2_charAt_3b067 cJ2_charAt_3b067 2 (some .char) ∈ TT := mTT 336 (by decide +kernel) rfl
theorem m_337 : Cond.methodLink RJ2 67 yJ2_checkIndex_2214a ∈ TT := mTT 337 (by decide +kernel) rfl
theorem m_338 : Cond.static yJ2_checkIndex_2214a ∈ TT := mTT 338 (by decide +kernel) rfl
theorem m_339 : Cond.code yJ2_checkIndex_2214a cJ2_checkIndex_2214a 2 none ∈ TT := mTT 339 (by decide +kernel) rfl
theorem m_340 : Cond.methodLink RJ2 48 yJ2_length_9d52b ∈ TT := mTT 340 (by decide +kernel) rfl
theorem m_341 : Cond.static yJ2_length_9d52b ∈ TT := mTT 341 (by decide +kernel) rfl
theorem m_342 : Cond.code yJ2_length_9d52b cJ2_length_9d52b 1 (some .int) ∈ TT := mTT 342 (by decide +kernel) rfl
theorem m_343 : Cond.methodLink RJ2 414 yJ0_checkIndex_df160 ∈ TT := mTT 343 (by decide +kernel) rfl
theorem m_344 : Cond.methodLink RJ2 71 yJ2_getChar_3b067 ∈ TT := mTT 344 (by decide +kernel) rfl
theorem m_345 : Cond.static yJ2_getChar_3b067 ∈ TT := mTT 345 (by decide +kernel) rfl
theorem m_346 : Cond.code yJ2_getChar_3b067 cJ2_getChar_3b067 2 (some .char) ∈ TT := mTT 346 (by decide +kernel) rfl
theorem m_347 : Cond.fieldLink RJ2 44 RJ2 "$assertionsDisabled" "Z" ∈ TT := mTT 347 (by decide +kernel) rfl
theorem m_349 : Cond.fieldLink RJ2 59 RJ2 "HI_BYTE_SHIFT" "I" ∈ TT := mTT 349 (by decide +kernel) rfl
theorem m_351 : Cond.fieldLink RJ2 63 RJ2 "LO_BYTE_SHIFT" "I" ∈ TT := mTT 351 (by decide +kernel) rfl
theorem m_353 : Cond.methodLink RX2 67 yX2_takeWheelLine ∈ TT := mTT 353 (by decide +kernel) rfl
theorem m_355 : Cond.instanceMethod yX2_takeWheelLine ∈ TT := mTT 355 (by decide +kernel) rfl
theorem m_356 : Cond.code yX2_takeWheelLine cX2_takeWheelLine 5 none ∈ TT := mTT 356 (by decide +kernel) rfl
theorem m_357 : Cond.methodLink RX2 80 yX2_numberWithin ∈ TT := mTT 357 (by decide +kernel) rfl
theorem m_359 : Cond.instanceMethod yX2_numberWithin ∈ TT := mTT 359 (by decide +kernel) rfl
theorem m_360 : Cond.code yX2_numberWithin cX2_numberWithin 3 (some .int) ∈ TT := mTT 360 (by decide +kernel) rfl
theorem m_362 : Cond.methodLink RX2 84 yX2_takeStop ∈ TT := mTT 362 (by decide +kernel) rfl
theorem m_364 : Cond.instanceMethod yX2_takeStop ∈ TT := mTT 364 (by decide +kernel) rfl
theorem m_365 : Cond.code yX2_takeStop cX2_takeStop 1 none ∈ TT := mTT 365 (by decide +kernel) rfl
theorem m_366 : Cond.methodLink RX2 87 yX0_appendWheel ∈ TT := mTT 366 (by decide +kernel) rfl
theorem m_367 : Cond.instanceMethod yX0_appendWheel ∈ TT := mTT 367 (by decide +kernel) rfl
theorem m_368 : Cond.selects RX0 yX0_appendWheel yX0_appendWheel ∈ TT := mTT 368 (by decide +kernel) rfl
theorem m_369 : Cond.code yX0_appendWheel cX0_appendWheel 4 (some .int) ∈ TT := mTT 369 (by decide +kernel) rfl
theorem m_370 : Cond.methodLink RX2 71 yX2_takeShaftLine ∈ TT := mTT 370 (by decide +kernel) rfl
theorem m_372 : Cond.instanceMethod yX2_takeShaftLine ∈ TT := mTT 372 (by decide +kernel) rfl
theorem m_373 : Cond.code yX2_takeShaftLine cX2_takeShaftLine 3 none ∈ TT := mTT 373 (by decide +kernel) rfl
theorem m_374 : Cond.methodLink RX2 74 yX2_takeActLine ∈ TT := mTT 374 (by decide +kernel) rfl
theorem m_376 : Cond.instanceMethod yX2_takeActLine ∈ TT := mTT 376 (by decide +kernel) rfl
theorem m_377 : Cond.code yX2_takeActLine cX2_takeActLine 4 none ∈ TT := mTT 377 (by decide +kernel) rfl
theorem m_378 : Cond.methodLink RX2 97 yX2_firstActOf ∈ TT := mTT 378 (by decide +kernel) rfl
theorem m_379 : Cond.static yX2_firstActOf ∈ TT := mTT 379 (by decide +kernel) rfl
theorem m_380 : Cond.code yX2_firstActOf cX2_firstActOf 1 (some .int) ∈ TT := mTT 380 (by decide +kernel) rfl
theorem m_381 : Cond.methodLink RX2 101 yX0_appendAct ∈ TT := mTT 381 (by decide +kernel) rfl
theorem m_382 : Cond.instanceMethod yX0_appendAct ∈ TT := mTT 382 (by decide +kernel) rfl
theorem m_383 : Cond.selects RX0 yX0_appendAct yX0_appendAct ∈ TT := mTT 383 (by decide +kernel) rfl
theorem m_384 : Cond.code yX0_appendAct cX0_appendAct 2 (some .int) ∈ TT := mTT 384 (by decide +kernel) rfl
theorem m_385 : Cond.methodLink RX3 85 yX0_become ∈ TT := mTT 385 (by decide +kernel) rfl
theorem m_386 : Cond.instanceMethod yX0_become ∈ TT := mTT 386 (by decide +kernel) rfl
theorem m_387 : Cond.selects RX0 yX0_become yX0_become ∈ TT := mTT 387 (by decide +kernel) rfl
theorem m_388 : Cond.code yX0_become cX0_become 3 none ∈ TT := mTT 388 (by decide +kernel) rfl
theorem m_389 : Cond.arrayClass .byte ∈ TT := mTT 389 (by decide +kernel) rfl
theorem m_390 : Cond.methodLink RL 27 yX3_fault ∈ TT := mTT 390 (by decide +kernel) rfl
theorem m_391 : Cond.instanceMethod yX3_fault ∈ TT := mTT 391 (by decide +kernel) rfl
theorem m_392 : Cond.selects RX3 yX3_fault yX3_fault ∈ TT := mTT 392 (by decide +kernel) rfl
theorem m_393 : Cond.code yX3_fault cX3_fault 1 (some .int) ∈ TT := mTT 393 (by decide +kernel) rfl
theorem m_394 : Cond.methodLink RL 31 yX3_rule ∈ TT := mTT 394 (by decide +kernel) rfl
theorem m_395 : Cond.instanceMethod yX3_rule ∈ TT := mTT 395 (by decide +kernel) rfl
theorem m_396 : Cond.selects RX3 yX3_rule yX3_rule ∈ TT := mTT 396 (by decide +kernel) rfl
theorem m_397 : Cond.code yX3_rule cX3_rule 2 (some .int) ∈ TT := mTT 397 (by decide +kernel) rfl
theorem m_398 : Cond.methodLink RX3 110 yX0_shaftSpeed ∈ TT := mTT 398 (by decide +kernel) rfl
theorem m_399 : Cond.instanceMethod yX0_shaftSpeed ∈ TT := mTT 399 (by decide +kernel) rfl
theorem m_400 : Cond.selects RX0 yX0_shaftSpeed yX0_shaftSpeed ∈ TT := mTT 400 (by decide +kernel) rfl
theorem m_401 : Cond.code yX0_shaftSpeed cX0_shaftSpeed 1 (some .int) ∈ TT := mTT 401 (by decide +kernel) rfl
theorem m_403 : Cond.static yX3_quotient ∈ TT := mTT 403 (by decide +kernel) rfl
theorem m_404 : Cond.code yX3_quotient cX3_quotient 2 (some .int) ∈ TT := mTT 404 (by decide +kernel) rfl
theorem m_405 : Cond.methodLink RX3 114 yX0_dueAct ∈ TT := mTT 405 (by decide +kernel) rfl
theorem m_406 : Cond.instanceMethod yX0_dueAct ∈ TT := mTT 406 (by decide +kernel) rfl
theorem m_407 : Cond.selects RX0 yX0_dueAct yX0_dueAct ∈ TT := mTT 407 (by decide +kernel) rfl
theorem m_408 : Cond.code yX0_dueAct cX0_dueAct 1 (some .int) ∈ TT := mTT 408 (by decide +kernel) rfl
theorem m_409 : Cond.methodLink RX0 67 yX0_dueNumber ∈ TT := mTT 409 (by decide +kernel) rfl
theorem m_410 : Cond.instanceMethod yX0_dueNumber ∈ TT := mTT 410 (by decide +kernel) rfl
theorem m_411 : Cond.selects RX0 yX0_dueNumber yX0_dueNumber ∈ TT := mTT 411 (by decide +kernel) rfl
theorem m_412 : Cond.code yX0_dueNumber cX0_dueNumber 1 (some .int) ∈ TT := mTT 412 (by decide +kernel) rfl
theorem m_413 : Cond.methodLink RL 35 yX3_wheel ∈ TT := mTT 413 (by decide +kernel) rfl
theorem m_414 : Cond.instanceMethod yX3_wheel ∈ TT := mTT 414 (by decide +kernel) rfl
theorem m_415 : Cond.selects RX3 yX3_wheel yX3_wheel ∈ TT := mTT 415 (by decide +kernel) rfl
theorem m_416 : Cond.code yX3_wheel cX3_wheel 3 (some .int) ∈ TT := mTT 416 (by decide +kernel) rfl
theorem m_417 : Cond.methodLink RX3 117 yX0_hasWheel ∈ TT := mTT 417 (by decide +kernel) rfl
theorem m_418 : Cond.instanceMethod yX0_hasWheel ∈ TT := mTT 418 (by decide +kernel) rfl
theorem m_419 : Cond.selects RX0 yX0_hasWheel yX0_hasWheel ∈ TT := mTT 419 (by decide +kernel) rfl
theorem m_420 : Cond.code yX0_hasWheel cX0_hasWheel 2 (some .boolean) ∈ TT := mTT 420 (by decide +kernel) rfl
theorem m_421 : Cond.methodLink RX3 133 yX3_quotient ∈ TT := mTT 421 (by decide +kernel) rfl
theorem m_422 : Cond.methodLink RX3 137 yX0_joinedSwing ∈ TT := mTT 422 (by decide +kernel) rfl
theorem m_423 : Cond.instanceMethod yX0_joinedSwing ∈ TT := mTT 423 (by decide +kernel) rfl
theorem m_424 : Cond.selects RX0 yX0_joinedSwing yX0_joinedSwing ∈ TT := mTT 424 (by decide +kernel) rfl
theorem m_425 : Cond.code yX0_joinedSwing cX0_joinedSwing 4 (some .int) ∈ TT := mTT 425 (by decide +kernel) rfl
theorem m_426 : Cond.methodLink RX0 91 yJ9_max_7cf53 ∈ TT := mTT 426 (by decide +kernel) rfl
theorem ml_426 : Cond.methodLink RX0 91 Lib.Math.max.name ∈ TT := mTT 426 (by decide +kernel) rfl
theorem m_427 : Cond.static yJ9_max_7cf53 ∈ TT := mTT 427 (by decide +kernel) rfl
theorem ml_427 : Cond.static Lib.Math.max.name ∈ TT := mTT 427 (by decide +kernel) rfl
theorem m_428 : Cond.code yJ9_max_7cf53 cJ9_max_7cf53 2 (some .int) ∈ TT := mTT 428 (by decide +kernel) rfl
theorem ml_428 : Cond.code Lib.Math.max.name Lib.Math.max.code 2 (some .int) ∈ TT := mTT 428 (by decide +kernel) rfl
theorem m_429 : Cond.methodLink RX0 82 yJ9_min_7cf53 ∈ TT := mTT 429 (by decide +kernel) rfl
theorem ml_429 : Cond.methodLink RX0 82 Lib.Math.min.name ∈ TT := mTT 429 (by decide +kernel) rfl
theorem m_430 : Cond.static yJ9_min_7cf53 ∈ TT := mTT 430 (by decide +kernel) rfl
theorem ml_430 : Cond.static Lib.Math.min.name ∈ TT := mTT 430 (by decide +kernel) rfl
theorem m_431 : Cond.code yJ9_min_7cf53 cJ9_min_7cf53 2 (some .int) ∈ TT := mTT 431 (by decide +kernel) rfl
theorem ml_431 : Cond.code Lib.Math.min.name Lib.Math.min.code 2 (some .int) ∈ TT := mTT 431 (by decide +kernel) rfl
theorem m_432 : Cond.methodLink RL 40 yX3_act ∈ TT := mTT 432 (by decide +kernel) rfl
theorem m_433 : Cond.instanceMethod yX3_act ∈ TT := mTT 433 (by decide +kernel) rfl
theorem m_434 : Cond.selects RX3 yX3_act yX3_act ∈ TT := mTT 434 (by decide +kernel) rfl
theorem m_435 : Cond.code yX3_act cX3_act 2 (some .int) ∈ TT := mTT 435 (by decide +kernel) rfl
theorem m_436 : Cond.methodLink RX3 140 yX0_hasAct ∈ TT := mTT 436 (by decide +kernel) rfl
theorem m_437 : Cond.instanceMethod yX0_hasAct ∈ TT := mTT 437 (by decide +kernel) rfl
theorem m_438 : Cond.selects RX0 yX0_hasAct yX0_hasAct ∈ TT := mTT 438 (by decide +kernel) rfl
theorem m_439 : Cond.code yX0_hasAct cX0_hasAct 2 (some .boolean) ∈ TT := mTT 439 (by decide +kernel) rfl
theorem m_440 : Cond.methodLink RL 44 yX3_alter ∈ TT := mTT 440 (by decide +kernel) rfl
theorem m_441 : Cond.instanceMethod yX3_alter ∈ TT := mTT 441 (by decide +kernel) rfl
theorem m_442 : Cond.selects RX3 yX3_alter yX3_alter ∈ TT := mTT 442 (by decide +kernel) rfl
theorem m_443 : Cond.code yX3_alter cX3_alter 4 (some .int) ∈ TT := mTT 443 (by decide +kernel) rfl
theorem m_444 : Cond.methodLink RX3 146 yX3_replace ∈ TT := mTT 444 (by decide +kernel) rfl
theorem m_445 : Cond.static yX3_replace ∈ TT := mTT 445 (by decide +kernel) rfl
theorem m_446 : Cond.code yX3_replace cX3_replace 4 (some .int) ∈ TT := mTT 446 (by decide +kernel) rfl
theorem m_447 : Cond.methodLink RL 49 yX3_shaft ∈ TT := mTT 447 (by decide +kernel) rfl
theorem m_448 : Cond.instanceMethod yX3_shaft ∈ TT := mTT 448 (by decide +kernel) rfl
theorem m_449 : Cond.selects RX3 yX3_shaft yX3_shaft ∈ TT := mTT 449 (by decide +kernel) rfl
theorem m_450 : Cond.code yX3_shaft cX3_shaft 3 (some .int) ∈ TT := mTT 450 (by decide +kernel) rfl
theorem m_451 : Cond.methodLink RL 53 yX3_put ∈ TT := mTT 451 (by decide +kernel) rfl
theorem m_452 : Cond.instanceMethod yX3_put ∈ TT := mTT 452 (by decide +kernel) rfl
theorem m_453 : Cond.selects RX3 yX3_put yX3_put ∈ TT := mTT 453 (by decide +kernel) rfl
theorem m_454 : Cond.code yX3_put cX3_put 4 (some .int) ∈ TT := mTT 454 (by decide +kernel) rfl
theorem m_455 : Cond.methodLink RX3 150 yX0_appendWheel ∈ TT := mTT 455 (by decide +kernel) rfl
theorem m_456 : Cond.methodLink RL 57 yX3_cut ∈ TT := mTT 456 (by decide +kernel) rfl
theorem m_457 : Cond.instanceMethod yX3_cut ∈ TT := mTT 457 (by decide +kernel) rfl
theorem m_458 : Cond.selects RX3 yX3_cut yX3_cut ∈ TT := mTT 458 (by decide +kernel) rfl
theorem m_459 : Cond.code yX3_cut cX3_cut 3 (some .int) ∈ TT := mTT 459 (by decide +kernel) rfl
theorem m_460 : Cond.methodLink RL 61 yX3_set ∈ TT := mTT 460 (by decide +kernel) rfl
theorem m_461 : Cond.instanceMethod yX3_set ∈ TT := mTT 461 (by decide +kernel) rfl
theorem m_462 : Cond.selects RX3 yX3_set yX3_set ∈ TT := mTT 462 (by decide +kernel) rfl
theorem m_463 : Cond.code yX3_set cX3_set 3 (some .int) ∈ TT := mTT 463 (by decide +kernel) rfl
theorem m_464 : Cond.methodLink RL 65 yX3_add ∈ TT := mTT 464 (by decide +kernel) rfl
theorem m_465 : Cond.instanceMethod yX3_add ∈ TT := mTT 465 (by decide +kernel) rfl
theorem m_466 : Cond.selects RX3 yX3_add yX3_add ∈ TT := mTT 466 (by decide +kernel) rfl
theorem m_467 : Cond.code yX3_add cX3_add 2 (some .int) ∈ TT := mTT 467 (by decide +kernel) rfl
theorem m_468 : Cond.methodLink RX3 154 yX3_addAct ∈ TT := mTT 468 (by decide +kernel) rfl
theorem m_470 : Cond.instanceMethod yX3_addAct ∈ TT := mTT 470 (by decide +kernel) rfl
theorem m_471 : Cond.code yX3_addAct cX3_addAct 2 (some .int) ∈ TT := mTT 471 (by decide +kernel) rfl
theorem m_472 : Cond.methodLink RX3 271 yX0_appendAct ∈ TT := mTT 472 (by decide +kernel) rfl
theorem m_473 : Cond.methodLink RL 69 yX3_drop ∈ TT := mTT 473 (by decide +kernel) rfl
theorem m_474 : Cond.instanceMethod yX3_drop ∈ TT := mTT 474 (by decide +kernel) rfl
theorem m_475 : Cond.selects RX3 yX3_drop yX3_drop ∈ TT := mTT 475 (by decide +kernel) rfl
theorem m_476 : Cond.code yX3_drop cX3_drop 3 (some .int) ∈ TT := mTT 476 (by decide +kernel) rfl
theorem m_477 : Cond.methodLink RL 73 yX3_turn ∈ TT := mTT 477 (by decide +kernel) rfl
theorem m_478 : Cond.instanceMethod yX3_turn ∈ TT := mTT 478 (by decide +kernel) rfl
theorem m_479 : Cond.selects RX3 yX3_turn yX3_turn ∈ TT := mTT 479 (by decide +kernel) rfl
theorem m_480 : Cond.code yX3_turn cX3_turn 2 (some .int) ∈ TT := mTT 480 (by decide +kernel) rfl
theorem m_481 : Cond.methodLink RX3 157 yX0_perform ∈ TT := mTT 481 (by decide +kernel) rfl
theorem m_482 : Cond.instanceMethod yX0_perform ∈ TT := mTT 482 (by decide +kernel) rfl
theorem m_483 : Cond.selects RX0 yX0_perform yX0_perform ∈ TT := mTT 483 (by decide +kernel) rfl
theorem m_484 : Cond.code yX0_perform cX0_perform 2 none ∈ TT := mTT 484 (by decide +kernel) rfl
theorem m_485 : Cond.methodLink RX0 71 yX0_takeLoad ∈ TT := mTT 485 (by decide +kernel) rfl
theorem m_487 : Cond.instanceMethod yX0_takeLoad ∈ TT := mTT 487 (by decide +kernel) rfl
theorem m_488 : Cond.code yX0_takeLoad cX0_takeLoad 3 none ∈ TT := mTT 488 (by decide +kernel) rfl
theorem m_489 : Cond.methodLink RX0 75 yX0_hasWheel ∈ TT := mTT 489 (by decide +kernel) rfl
theorem m_490 : Cond.methodLink RX0 79 yX0_joinWheel ∈ TT := mTT 490 (by decide +kernel) rfl
theorem m_492 : Cond.instanceMethod yX0_joinWheel ∈ TT := mTT 492 (by decide +kernel) rfl
theorem m_493 : Cond.code yX0_joinWheel cX0_joinWheel 3 none ∈ TT := mTT 493 (by decide +kernel) rfl
theorem m_494 : Cond.methodLink RX0 87 yX0_joinedSwing ∈ TT := mTT 494 (by decide +kernel) rfl
theorem m_495 : Cond.methodLink RL 77 yX3_ticks ∈ TT := mTT 495 (by decide +kernel) rfl
theorem m_496 : Cond.instanceMethod yX3_ticks ∈ TT := mTT 496 (by decide +kernel) rfl
theorem m_497 : Cond.selects RX3 yX3_ticks yX3_ticks ∈ TT := mTT 497 (by decide +kernel) rfl
theorem m_498 : Cond.code yX3_ticks cX3_ticks 3 (some .int) ∈ TT := mTT 498 (by decide +kernel) rfl
theorem m_499 : Cond.methodLink RX3 161 yX0_runTicks ∈ TT := mTT 499 (by decide +kernel) rfl
theorem m_500 : Cond.instanceMethod yX0_runTicks ∈ TT := mTT 500 (by decide +kernel) rfl
theorem m_501 : Cond.selects RX0 yX0_runTicks yX0_runTicks ∈ TT := mTT 501 (by decide +kernel) rfl
theorem m_502 : Cond.code yX0_runTicks cX0_runTicks 3 none ∈ TT := mTT 502 (by decide +kernel) rfl
theorem m_503 : Cond.methodLink RX0 103 yX0_passTick ∈ TT := mTT 503 (by decide +kernel) rfl
theorem m_504 : Cond.instanceMethod yX0_passTick ∈ TT := mTT 504 (by decide +kernel) rfl
theorem m_505 : Cond.selects RX0 yX0_passTick yX0_passTick ∈ TT := mTT 505 (by decide +kernel) rfl
theorem m_506 : Cond.code yX0_passTick cX0_passTick 1 none ∈ TT := mTT 506 (by decide +kernel) rfl
theorem m_507 : Cond.methodLink RX0 94 yX0_dueAct ∈ TT := mTT 507 (by decide +kernel) rfl
theorem m_508 : Cond.methodLink RX0 97 yX0_passTickWith ∈ TT := mTT 508 (by decide +kernel) rfl
theorem m_509 : Cond.instanceMethod yX0_passTickWith ∈ TT := mTT 509 (by decide +kernel) rfl
theorem m_510 : Cond.selects RX0 yX0_passTickWith yX0_passTickWith ∈ TT := mTT 510 (by decide +kernel) rfl
theorem m_511 : Cond.code yX0_passTickWith cX0_passTickWith 4 none ∈ TT := mTT 511 (by decide +kernel) rfl
theorem m_512 : Cond.methodLink RX0 100 yX0_perform ∈ TT := mTT 512 (by decide +kernel) rfl
theorem m_513 : Cond.methodLink RL 81 yX3_runs ∈ TT := mTT 513 (by decide +kernel) rfl
theorem m_514 : Cond.instanceMethod yX3_runs ∈ TT := mTT 514 (by decide +kernel) rfl
theorem m_515 : Cond.selects RX3 yX3_runs yX3_runs ∈ TT := mTT 515 (by decide +kernel) rfl
theorem m_516 : Cond.code yX3_runs cX3_runs 5 (some .int) ∈ TT := mTT 516 (by decide +kernel) rfl
theorem m_517 : Cond.methodLink RX3 164 yX0_startAs ∈ TT := mTT 517 (by decide +kernel) rfl
theorem m_518 : Cond.instanceMethod yX0_startAs ∈ TT := mTT 518 (by decide +kernel) rfl
theorem m_519 : Cond.selects RX0 yX0_startAs yX0_startAs ∈ TT := mTT 519 (by decide +kernel) rfl
theorem m_520 : Cond.code yX0_startAs cX0_startAs 2 none ∈ TT := mTT 520 (by decide +kernel) rfl
theorem m_521 : Cond.methodLink RX0 55 yX0_become ∈ TT := mTT 521 (by decide +kernel) rfl
theorem m_522 : Cond.methodLink RX3 167 yX0_passTick ∈ TT := mTT 522 (by decide +kernel) rfl
theorem m_523 : Cond.methodLink RX3 170 yJ9_max_7cf53 ∈ TT := mTT 523 (by decide +kernel) rfl
theorem ml_523 : Cond.methodLink RX3 170 Lib.Math.max.name ∈ TT := mTT 523 (by decide +kernel) rfl
theorem m_524 : Cond.methodLink RX3 178 yX0_allSwing ∈ TT := mTT 524 (by decide +kernel) rfl
theorem m_525 : Cond.instanceMethod yX0_allSwing ∈ TT := mTT 525 (by decide +kernel) rfl
theorem m_526 : Cond.selects RX0 yX0_allSwing yX0_allSwing ∈ TT := mTT 526 (by decide +kernel) rfl
theorem m_527 : Cond.code yX0_allSwing cX0_allSwing 1 (some .int) ∈ TT := mTT 527 (by decide +kernel) rfl
theorem m_528 : Cond.methodLink RX0 63 yX0_sumOfWheels ∈ TT := mTT 528 (by decide +kernel) rfl
theorem m_529 : Cond.instanceMethod yX0_sumOfWheels ∈ TT := mTT 529 (by decide +kernel) rfl
theorem m_530 : Cond.selects RX0 yX0_sumOfWheels yX0_sumOfWheels ∈ TT := mTT 530 (by decide +kernel) rfl
theorem m_531 : Cond.code yX0_sumOfWheels cX0_sumOfWheels 4 (some .int) ∈ TT := mTT 531 (by decide +kernel) rfl
theorem m_532 : Cond.methodLink RL 85 yX3_ahead ∈ TT := mTT 532 (by decide +kernel) rfl
theorem m_533 : Cond.instanceMethod yX3_ahead ∈ TT := mTT 533 (by decide +kernel) rfl
theorem m_534 : Cond.selects RX3 yX3_ahead yX3_ahead ∈ TT := mTT 534 (by decide +kernel) rfl
theorem m_535 : Cond.code yX3_ahead cX3_ahead 3 (some .int) ∈ TT := mTT 535 (by decide +kernel) rfl
theorem m_536 : Cond.methodLink RL 89 yX3_when ∈ TT := mTT 536 (by decide +kernel) rfl
theorem m_537 : Cond.instanceMethod yX3_when ∈ TT := mTT 537 (by decide +kernel) rfl
theorem m_538 : Cond.selects RX3 yX3_when yX3_when ∈ TT := mTT 538 (by decide +kernel) rfl
theorem m_539 : Cond.code yX3_when cX3_when 3 (some .int) ∈ TT := mTT 539 (by decide +kernel) rfl
theorem m_540 : Cond.methodLink RL 93 yX3_again ∈ TT := mTT 540 (by decide +kernel) rfl
theorem m_541 : Cond.instanceMethod yX3_again ∈ TT := mTT 541 (by decide +kernel) rfl
theorem m_542 : Cond.selects RX3 yX3_again yX3_again ∈ TT := mTT 542 (by decide +kernel) rfl
theorem m_543 : Cond.code yX3_again cX3_again 2 (some .int) ∈ TT := mTT 543 (by decide +kernel) rfl
theorem m_544 : Cond.methodLink RX3 181 yX0_dueNumber ∈ TT := mTT 544 (by decide +kernel) rfl
theorem m_545 : Cond.methodLink RX3 184 yX0_swingsAs ∈ TT := mTT 545 (by decide +kernel) rfl
theorem m_546 : Cond.instanceMethod yX0_swingsAs ∈ TT := mTT 546 (by decide +kernel) rfl
theorem m_547 : Cond.selects RX0 yX0_swingsAs yX0_swingsAs ∈ TT := mTT 547 (by decide +kernel) rfl
theorem m_548 : Cond.code yX0_swingsAs cX0_swingsAs 3 (some .boolean) ∈ TT := mTT 548 (by decide +kernel) rfl
theorem m_549 : Cond.methodLink RL 97 yX3_mass ∈ TT := mTT 549 (by decide +kernel) rfl
theorem m_550 : Cond.instanceMethod yX3_mass ∈ TT := mTT 550 (by decide +kernel) rfl
theorem m_551 : Cond.selects RX3 yX3_mass yX3_mass ∈ TT := mTT 551 (by decide +kernel) rfl
theorem m_552 : Cond.code yX3_mass cX3_mass 7 (some .int) ∈ TT := mTT 552 (by decide +kernel) rfl
theorem m_553 : Cond.methodLink RX3 188 yX3_asksBest ∈ TT := mTT 553 (by decide +kernel) rfl
theorem m_554 : Cond.static yX3_asksBest ∈ TT := mTT 554 (by decide +kernel) rfl
theorem m_555 : Cond.code yX3_asksBest cX3_asksBest 2 (some .boolean) ∈ TT := mTT 555 (by decide +kernel) rfl
theorem m_556 : Cond.methodLink RL 101 yX3_kind ∈ TT := mTT 556 (by decide +kernel) rfl
theorem m_557 : Cond.instanceMethod yX3_kind ∈ TT := mTT 557 (by decide +kernel) rfl
theorem m_558 : Cond.selects RX3 yX3_kind yX3_kind ∈ TT := mTT 558 (by decide +kernel) rfl
theorem m_559 : Cond.code yX3_kind cX3_kind 7 (some .int) ∈ TT := mTT 559 (by decide +kernel) rfl
theorem m_560 : Cond.methodLink RL 105 yX3_bears ∈ TT := mTT 560 (by decide +kernel) rfl
theorem m_561 : Cond.instanceMethod yX3_bears ∈ TT := mTT 561 (by decide +kernel) rfl
theorem m_562 : Cond.selects RX3 yX3_bears yX3_bears ∈ TT := mTT 562 (by decide +kernel) rfl
theorem m_563 : Cond.code yX3_bears cX3_bears 4 (some .int) ∈ TT := mTT 563 (by decide +kernel) rfl
theorem m_564 : Cond.methodLink RL 109 yX3_swap ∈ TT := mTT 564 (by decide +kernel) rfl
theorem m_565 : Cond.instanceMethod yX3_swap ∈ TT := mTT 565 (by decide +kernel) rfl
theorem m_566 : Cond.selects RX3 yX3_swap yX3_swap ∈ TT := mTT 566 (by decide +kernel) rfl
theorem m_567 : Cond.code yX3_swap cX3_swap 8 (some .int) ∈ TT := mTT 567 (by decide +kernel) rfl
theorem m_568 : Cond.methodLink RX3 192 yX3_doneAsItIs ∈ TT := mTT 568 (by decide +kernel) rfl
theorem m_570 : Cond.instanceMethod yX3_doneAsItIs ∈ TT := mTT 570 (by decide +kernel) rfl
theorem m_571 : Cond.code yX3_doneAsItIs cX3_doneAsItIs 2 (some .int) ∈ TT := mTT 571 (by decide +kernel) rfl
theorem m_572 : Cond.methodLink RX3 195 yX3_doneSwapped ∈ TT := mTT 572 (by decide +kernel) rfl
theorem m_574 : Cond.instanceMethod yX3_doneSwapped ∈ TT := mTT 574 (by decide +kernel) rfl
theorem m_575 : Cond.code yX3_doneSwapped cX3_doneSwapped 4 (some .int) ∈ TT := mTT 575 (by decide +kernel) rfl
theorem m_576 : Cond.methodLink RL 113 yX3_omit ∈ TT := mTT 576 (by decide +kernel) rfl
theorem m_577 : Cond.instanceMethod yX3_omit ∈ TT := mTT 577 (by decide +kernel) rfl
theorem m_578 : Cond.selects RX3 yX3_omit yX3_omit ∈ TT := mTT 578 (by decide +kernel) rfl
theorem m_579 : Cond.code yX3_omit cX3_omit 6 (some .int) ∈ TT := mTT 579 (by decide +kernel) rfl
theorem m_580 : Cond.methodLink RL 117 yX3_off ∈ TT := mTT 580 (by decide +kernel) rfl
theorem m_581 : Cond.instanceMethod yX3_off ∈ TT := mTT 581 (by decide +kernel) rfl
theorem m_582 : Cond.selects RX3 yX3_off yX3_off ∈ TT := mTT 582 (by decide +kernel) rfl
theorem m_583 : Cond.code yX3_off cX3_off 6 (some .int) ∈ TT := mTT 583 (by decide +kernel) rfl
theorem m_584 : Cond.methodLink RX3 198 yX0_neverJoin ∈ TT := mTT 584 (by decide +kernel) rfl
theorem m_585 : Cond.instanceMethod yX0_neverJoin ∈ TT := mTT 585 (by decide +kernel) rfl
theorem m_586 : Cond.selects RX0 yX0_neverJoin yX0_neverJoin ∈ TT := mTT 586 (by decide +kernel) rfl
theorem m_587 : Cond.code yX0_neverJoin cX0_neverJoin 3 none ∈ TT := mTT 587 (by decide +kernel) rfl
theorem m_588 : Cond.methodLink RL 121 yX3_luck ∈ TT := mTT 588 (by decide +kernel) rfl
theorem m_589 : Cond.instanceMethod yX3_luck ∈ TT := mTT 589 (by decide +kernel) rfl
theorem m_590 : Cond.selects RX3 yX3_luck yX3_luck ∈ TT := mTT 590 (by decide +kernel) rfl
theorem m_591 : Cond.code yX3_luck cX3_luck 7 (some .long) ∈ TT := mTT 591 (by decide +kernel) rfl
theorem m_592 : Cond.methodLink RX3 201 yX3_asksOdds ∈ TT := mTT 592 (by decide +kernel) rfl
theorem m_593 : Cond.static yX3_asksOdds ∈ TT := mTT 593 (by decide +kernel) rfl
theorem m_594 : Cond.code yX3_asksOdds cX3_asksOdds 3 (some .boolean) ∈ TT := mTT 594 (by decide +kernel) rfl
theorem m_595 : Cond.constantLong RX3 204 (-1 : Int64) ∈ TT := mTT 595 (by decide +kernel) rfl
theorem m_596 : Cond.methodLink RX3 206 yX3_runFailing ∈ TT := mTT 596 (by decide +kernel) rfl
theorem m_598 : Cond.instanceMethod yX3_runFailing ∈ TT := mTT 598 (by decide +kernel) rfl
theorem m_599 : Cond.code yX3_runFailing cX3_runFailing 6 none ∈ TT := mTT 599 (by decide +kernel) rfl
theorem m_600 : Cond.methodLink RX3 242 yX0_passTickWith ∈ TT := mTT 600 (by decide +kernel) rfl
theorem m_601 : Cond.methodLink RX3 210 yX3_weightOf ∈ TT := mTT 601 (by decide +kernel) rfl
theorem m_602 : Cond.static yX3_weightOf ∈ TT := mTT 602 (by decide +kernel) rfl
theorem m_603 : Cond.code yX3_weightOf cX3_weightOf 6 (some .long) ∈ TT := mTT 603 (by decide +kernel) rfl
theorem m_604 : Cond.methodLink RX3 214 yX3_allWeights ∈ TT := mTT 604 (by decide +kernel) rfl
theorem m_605 : Cond.static yX3_allWeights ∈ TT := mTT 605 (by decide +kernel) rfl
theorem m_606 : Cond.code yX3_allWeights cX3_allWeights 4 (some .long) ∈ TT := mTT 606 (by decide +kernel) rfl
theorem m_607 : Cond.constantLong RX3 274 (10 : Int64) ∈ TT := mTT 607 (by decide +kernel) rfl
theorem m_608 : Cond.methodLink RX3 218 yX3_partOfFraction ∈ TT := mTT 608 (by decide +kernel) rfl
theorem m_609 : Cond.static yX3_partOfFraction ∈ TT := mTT 609 (by decide +kernel) rfl
theorem m_610 : Cond.code yX3_partOfFraction cX3_partOfFraction 12 (some .long) ∈ TT := mTT 610 (by decide +kernel) rfl
theorem m_611 : Cond.methodLink RL 126 yX3_mean ∈ TT := mTT 611 (by decide +kernel) rfl
theorem m_612 : Cond.instanceMethod yX3_mean ∈ TT := mTT 612 (by decide +kernel) rfl
theorem m_613 : Cond.selects RX3 yX3_mean yX3_mean ∈ TT := mTT 613 (by decide +kernel) rfl
theorem m_614 : Cond.code yX3_mean cX3_mean 7 (some .long) ∈ TT := mTT 614 (by decide +kernel) rfl
theorem m_615 : Cond.methodLink RL 130 yX3_see ∈ TT := mTT 615 (by decide +kernel) rfl
theorem m_616 : Cond.instanceMethod yX3_see ∈ TT := mTT 616 (by decide +kernel) rfl
theorem m_617 : Cond.selects RX3 yX3_see yX3_see ∈ TT := mTT 617 (by decide +kernel) rfl
theorem m_618 : Cond.code yX3_see cX3_see 4 (some .int) ∈ TT := mTT 618 (by decide +kernel) rfl
theorem m_619 : Cond.constant RX3 222 (9999999 : Int32) ∈ TT := mTT 619 (by decide +kernel) rfl
theorem m_620 : Cond.methodLink RL 134 yX3_forget ∈ TT := mTT 620 (by decide +kernel) rfl
theorem m_621 : Cond.instanceMethod yX3_forget ∈ TT := mTT 621 (by decide +kernel) rfl
theorem m_622 : Cond.selects RX3 yX3_forget yX3_forget ∈ TT := mTT 622 (by decide +kernel) rfl
theorem m_623 : Cond.code yX3_forget cX3_forget 3 (some .int) ∈ TT := mTT 623 (by decide +kernel) rfl
theorem m_624 : Cond.methodLink RL 138 yX3_kinds ∈ TT := mTT 624 (by decide +kernel) rfl
theorem m_625 : Cond.instanceMethod yX3_kinds ∈ TT := mTT 625 (by decide +kernel) rfl
theorem m_626 : Cond.selects RX3 yX3_kinds yX3_kinds ∈ TT := mTT 626 (by decide +kernel) rfl
theorem m_627 : Cond.code yX3_kinds cX3_kinds 4 (some .int) ∈ TT := mTT 627 (by decide +kernel) rfl
theorem m_628 : Cond.methodLink RX3 223 yX3_trialGoesAsSeen ∈ TT := mTT 628 (by decide +kernel) rfl
theorem m_630 : Cond.instanceMethod yX3_trialGoesAsSeen ∈ TT := mTT 630 (by decide +kernel) rfl
theorem m_631 : Cond.code yX3_trialGoesAsSeen cX3_trialGoesAsSeen 3 (some .boolean) ∈ TT := mTT 631 (by decide +kernel) rfl
theorem m_632 : Cond.methodLink RX3 276 yX3_trialIsAsSeen ∈ TT := mTT 632 (by decide +kernel) rfl
theorem m_634 : Cond.instanceMethod yX3_trialIsAsSeen ∈ TT := mTT 634 (by decide +kernel) rfl
theorem m_635 : Cond.code yX3_trialIsAsSeen cX3_trialIsAsSeen 4 (some .boolean) ∈ TT := mTT 635 (by decide +kernel) rfl
theorem m_636 : Cond.methodLink RL 142 yX3_losses ∈ TT := mTT 636 (by decide +kernel) rfl
theorem m_637 : Cond.instanceMethod yX3_losses ∈ TT := mTT 637 (by decide +kernel) rfl
theorem m_638 : Cond.selects RX3 yX3_losses yX3_losses ∈ TT := mTT 638 (by decide +kernel) rfl
theorem m_639 : Cond.code yX3_losses cX3_losses 2 (some .int) ∈ TT := mTT 639 (by decide +kernel) rfl
theorem m_640 : Cond.methodLink RX3 227 yX3_fittingLosses ∈ TT := mTT 640 (by decide +kernel) rfl
theorem m_642 : Cond.instanceMethod yX3_fittingLosses ∈ TT := mTT 642 (by decide +kernel) rfl
theorem m_643 : Cond.code yX3_fittingLosses cX3_fittingLosses 4 (some .int) ∈ TT := mTT 643 (by decide +kernel) rfl
theorem m_644 : Cond.methodLink RL 146 yX3_ask ∈ TT := mTT 644 (by decide +kernel) rfl
theorem m_645 : Cond.instanceMethod yX3_ask ∈ TT := mTT 645 (by decide +kernel) rfl
theorem m_646 : Cond.selects RX3 yX3_ask yX3_ask ∈ TT := mTT 646 (by decide +kernel) rfl
theorem m_647 : Cond.code yX3_ask cX3_ask 8 (some .int) ∈ TT := mTT 647 (by decide +kernel) rfl
theorem m_648 : Cond.methodLink RX3 230 yX3_lookAhead ∈ TT := mTT 648 (by decide +kernel) rfl
theorem m_650 : Cond.instanceMethod yX3_lookAhead ∈ TT := mTT 650 (by decide +kernel) rfl
theorem m_651 : Cond.code yX3_lookAhead cX3_lookAhead 5 none ∈ TT := mTT 651 (by decide +kernel) rfl
theorem m_652 : Cond.methodLink RX3 233 yJ6_bitCount_0f7a4 ∈ TT := mTT 652 (by decide +kernel) rfl
theorem m_653 : Cond.static yJ6_bitCount_0f7a4 ∈ TT := mTT 653 (by decide +kernel) rfl
theorem m_654 : Cond.code yJ6_bitCount_0f7a4 cJ6_bitCount_0f7a4 1 (some .int) ∈ TT := mTT 654 (by decide +kernel) rfl
theorem m_655 : Cond.constant RJ6 265 (1431655765 : Int32) ∈ TT := mTT 655 (by decide +kernel) rfl
theorem m_656 : Cond.constant RJ6 266 (858993459 : Int32) ∈ TT := mTT 656 (by decide +kernel) rfl
theorem m_657 : Cond.constant RJ6 267 (252645135 : Int32) ∈ TT := mTT 657 (by decide +kernel) rfl
theorem m_658 : Cond.methodLink RX3 238 yX3_leftAtWorst ∈ TT := mTT 658 (by decide +kernel) rfl
theorem m_660 : Cond.instanceMethod yX3_leftAtWorst ∈ TT := mTT 660 (by decide +kernel) rfl
theorem m_661 : Cond.code yX3_leftAtWorst cX3_leftAtWorst 5 (some .int) ∈ TT := mTT 661 (by decide +kernel) rfl
theorem m_662 : Cond.methodLink RX3 279 yX3_lossesLookingLike ∈ TT := mTT 662 (by decide +kernel) rfl
theorem m_664 : Cond.instanceMethod yX3_lossesLookingLike ∈ TT := mTT 664 (by decide +kernel) rfl
theorem m_665 : Cond.code yX3_lossesLookingLike cX3_lossesLookingLike 7 (some .int) ∈ TT := mTT 665 (by decide +kernel) rfl
theorem m_666 : Cond.methodLink RL 150 yX3_drift ∈ TT := mTT 666 (by decide +kernel) rfl
theorem m_667 : Cond.instanceMethod yX3_drift ∈ TT := mTT 667 (by decide +kernel) rfl
theorem m_668 : Cond.selects RX3 yX3_drift yX3_drift ∈ TT := mTT 668 (by decide +kernel) rfl
theorem m_669 : Cond.code yX3_drift cX3_drift 7 (some .int) ∈ TT := mTT 669 (by decide +kernel) rfl
theorem m_670 : Cond.constant RX3 241 (1103515245 : Int32) ∈ TT := mTT 670 (by decide +kernel) rfl
theorem m_671 : Cond.methodLink RL 154 yX3_keep ∈ TT := mTT 671 (by decide +kernel) rfl
theorem m_672 : Cond.instanceMethod yX3_keep ∈ TT := mTT 672 (by decide +kernel) rfl
theorem m_673 : Cond.selects RX3 yX3_keep yX3_keep ∈ TT := mTT 673 (by decide +kernel) rfl
theorem m_674 : Cond.code yX3_keep cX3_keep 3 (some .int) ∈ TT := mTT 674 (by decide +kernel) rfl
theorem m_675 : Cond.methodLink RL 158 yX3_back ∈ TT := mTT 675 (by decide +kernel) rfl
theorem m_676 : Cond.instanceMethod yX3_back ∈ TT := mTT 676 (by decide +kernel) rfl
theorem m_677 : Cond.selects RX3 yX3_back yX3_back ∈ TT := mTT 677 (by decide +kernel) rfl
theorem m_678 : Cond.code yX3_back cX3_back 2 (some .int) ∈ TT := mTT 678 (by decide +kernel) rfl
theorem m_679 : Cond.methodLink RL 162 yX3_sheet ∈ TT := mTT 679 (by decide +kernel) rfl
theorem m_680 : Cond.instanceMethod yX3_sheet ∈ TT := mTT 680 (by decide +kernel) rfl
theorem m_681 : Cond.selects RX3 yX3_sheet yX3_sheet ∈ TT := mTT 681 (by decide +kernel) rfl
theorem m_682 : Cond.code yX3_sheet cX3_sheet 4 (some .int) ∈ TT := mTT 682 (by decide +kernel) rfl
theorem m_683 : Cond.methodLink RX3 245 yX1_renew ∈ TT := mTT 683 (by decide +kernel) rfl
theorem m_684 : Cond.instanceMethod yX1_renew ∈ TT := mTT 684 (by decide +kernel) rfl
theorem m_685 : Cond.selects RX1 yX1_renew yX1_renew ∈ TT := mTT 685 (by decide +kernel) rfl
theorem m_686 : Cond.code yX1_renew cX1_renew 4 none ∈ TT := mTT 686 (by decide +kernel) rfl
theorem m_687 : Cond.methodLink RL 166 yX3_lay ∈ TT := mTT 687 (by decide +kernel) rfl
theorem m_688 : Cond.instanceMethod yX3_lay ∈ TT := mTT 688 (by decide +kernel) rfl
theorem m_689 : Cond.selects RX3 yX3_lay yX3_lay ∈ TT := mTT 689 (by decide +kernel) rfl
theorem m_690 : Cond.code yX3_lay cX3_lay 6 (some .int) ∈ TT := mTT 690 (by decide +kernel) rfl
theorem m_691 : Cond.methodLink RX3 251 yX1_faultAt ∈ TT := mTT 691 (by decide +kernel) rfl
theorem m_692 : Cond.instanceMethod yX1_faultAt ∈ TT := mTT 692 (by decide +kernel) rfl
theorem m_693 : Cond.selects RX1 yX1_faultAt yX1_faultAt ∈ TT := mTT 693 (by decide +kernel) rfl
theorem m_694 : Cond.code yX1_faultAt cX1_faultAt 3 (some .int) ∈ TT := mTT 694 (by decide +kernel) rfl
theorem m_695 : Cond.methodLink RX3 254 yX1_write ∈ TT := mTT 695 (by decide +kernel) rfl
theorem m_696 : Cond.instanceMethod yX1_write ∈ TT := mTT 696 (by decide +kernel) rfl
theorem m_697 : Cond.selects RX1 yX1_write yX1_write ∈ TT := mTT 697 (by decide +kernel) rfl
theorem m_698 : Cond.code yX1_write cX1_write 3 none ∈ TT := mTT 698 (by decide +kernel) rfl
theorem m_699 : Cond.methodLink RL 170 yX3_read ∈ TT := mTT 699 (by decide +kernel) rfl
theorem m_700 : Cond.instanceMethod yX3_read ∈ TT := mTT 700 (by decide +kernel) rfl
theorem m_701 : Cond.selects RX3 yX3_read yX3_read ∈ TT := mTT 701 (by decide +kernel) rfl
theorem m_702 : Cond.code yX3_read cX3_read 10 (some .int) ∈ TT := mTT 702 (by decide +kernel) rfl
theorem m_703 : Cond.methodLink RL 175 yX3_torn ∈ TT := mTT 703 (by decide +kernel) rfl
theorem m_704 : Cond.instanceMethod yX3_torn ∈ TT := mTT 704 (by decide +kernel) rfl
theorem m_705 : Cond.selects RX3 yX3_torn yX3_torn ∈ TT := mTT 705 (by decide +kernel) rfl
theorem m_706 : Cond.code yX3_torn cX3_torn 1 (some .int) ∈ TT := mTT 706 (by decide +kernel) rfl
theorem m_707 : Cond.methodLink RL 179 yX3_count ∈ TT := mTT 707 (by decide +kernel) rfl
theorem m_708 : Cond.instanceMethod yX3_count ∈ TT := mTT 708 (by decide +kernel) rfl
theorem m_709 : Cond.selects RX3 yX3_count yX3_count ∈ TT := mTT 709 (by decide +kernel) rfl
theorem m_710 : Cond.code yX3_count cX3_count 2 (some .int) ∈ TT := mTT 710 (by decide +kernel) rfl
theorem m_711 : Cond.methodLink RX3 267 yX0_sumOfWheels ∈ TT := mTT 711 (by decide +kernel) rfl
theorem m_712 : Cond.classLink RL 10 RX4 ∈ TT := mTT 712 (by decide +kernel) rfl
theorem m_713 : Cond.instantiable RX4 26 ∈ TT := mTT 713 (by decide +kernel) rfl
theorem m_714 : Cond.methodLink RL 12 yX4_init ∈ TT := mTT 714 (by decide +kernel) rfl
theorem m_715 : Cond.instanceMethod yX4_init ∈ TT := mTT 715 (by decide +kernel) rfl
theorem m_716 : Cond.code yX4_init cX4_init 1 none ∈ TT := mTT 716 (by decide +kernel) rfl
theorem m_717 : Cond.methodLink RX4 1 objectInit ∈ TT := mTT 717 (by decide +kernel) rfl
theorem m_718 : Cond.fieldLink RX4 7 RX4 "state" "[I" ∈ TT := mTT 718 (by decide +kernel) rfl
theorem m_719 : Cond.fieldLink RX4 13 RX4 "readPage" "[I" ∈ TT := mTT 719 (by decide +kernel) rfl
theorem m_720 : Cond.fieldLink RX4 107 RX4 "isShaftTold" "Z" ∈ TT := mTT 720 (by decide +kernel) rfl
theorem m_721 : Cond.fieldLink RX4 16 RX4 "tape" "[I" ∈ TT := mTT 721 (by decide +kernel) rfl
theorem m_722 : Cond.fieldLink RX4 57 RX4 "taped" "I" ∈ TT := mTT 722 (by decide +kernel) rfl
theorem m_723 : Cond.fieldLink RX4 117 RX4 "fault" "I" ∈ TT := mTT 723 (by decide +kernel) rfl
theorem m_724 : Cond.fieldLink RX4 60 RX4 "broken" "I" ∈ TT := mTT 724 (by decide +kernel) rfl
theorem m_725 : Cond.fieldLink RX4 66 RX4 "brokenAt" "I" ∈ TT := mTT 725 (by decide +kernel) rfl
theorem m_726 : Cond.fieldLink RX4 72 RX4 "spot" "I" ∈ TT := mTT 726 (by decide +kernel) rfl
theorem m_727 : Cond.fieldLink RX4 63 RX4 "here" "I" ∈ TT := mTT 727 (by decide +kernel) rfl
theorem m_728 : Cond.fieldLink RX4 69 RX4 "token" "I" ∈ TT := mTT 728 (by decide +kernel) rfl
theorem m_729 : Cond.fieldLink RX4 79 RX4 "value" "I" ∈ TT := mTT 729 (by decide +kernel) rfl
theorem m_730 : Cond.fieldLink RX4 19 RX4 "ends" "[I" ∈ TT := mTT 730 (by decide +kernel) rfl
theorem m_731 : Cond.fieldLink RX4 22 RX4 "letters" "[I" ∈ TT := mTT 731 (by decide +kernel) rfl
theorem m_732 : Cond.fieldLink RX4 25 RX4 "freed" "I" ∈ TT := mTT 732 (by decide +kernel) rfl
theorem m_733 : Cond.fieldLink RX4 29 RX4 "omitted" "I" ∈ TT := mTT 733 (by decide +kernel) rfl
theorem m_734 : Cond.fieldLink RX4 128 RX4 "taken" "I" ∈ TT := mTT 734 (by decide +kernel) rfl
theorem m_735 : Cond.fieldLink RX4 134 RX4 "fastest" "I" ∈ TT := mTT 735 (by decide +kernel) rfl
theorem m_736 : Cond.fieldLink RX4 32 RX4 "seen" "[I" ∈ TT := mTT 736 (by decide +kernel) rfl
theorem m_737 : Cond.fieldLink RX4 120 RX4 "seenMany" "I" ∈ TT := mTT 737 (by decide +kernel) rfl
theorem m_738 : Cond.fieldLink RX4 35 RX4 "swingBy" "[I" ∈ TT := mTT 738 (by decide +kernel) rfl
theorem m_739 : Cond.fieldLink RX4 38 RX4 "isKept" "[Z" ∈ TT := mTT 739 (by decide +kernel) rfl
theorem m_740 : Cond.fieldLink RX4 42 RX4 "lanes" "[I" ∈ TT := mTT 740 (by decide +kernel) rfl
theorem m_741 : Cond.fieldLink RX4 45 RX4 "lengths" "[I" ∈ TT := mTT 741 (by decide +kernel) rfl
theorem m_742 : Cond.fieldLink RX4 48 RX4 "cells" "[I" ∈ TT := mTT 742 (by decide +kernel) rfl
theorem m_743 : Cond.fieldLink RX4 230 RX4 "torn" "I" ∈ TT := mTT 743 (by decide +kernel) rfl
theorem m_797 : Cond.methodLink RL 17 yX4_feed ∈ TT := mTT 797 (by decide +kernel) rfl
theorem m_798 : Cond.instanceMethod yX4_feed ∈ TT := mTT 798 (by decide +kernel) rfl
theorem m_799 : Cond.selects RX4 yX4_feed yX4_feed ∈ TT := mTT 799 (by decide +kernel) rfl
theorem m_800 : Cond.code yX4_feed cX4_feed 2 (some .int) ∈ TT := mTT 800 (by decide +kernel) rfl
theorem m_801 : Cond.constantLong RX4 51 (127 : Int64) ∈ TT := mTT 801 (by decide +kernel) rfl
theorem m_802 : Cond.methodLink RX4 53 yX4_in ∈ TT := mTT 802 (by decide +kernel) rfl
theorem m_803 : Cond.static yX4_in ∈ TT := mTT 803 (by decide +kernel) rfl
theorem m_804 : Cond.code yX4_in cX4_in 6 (some .boolean) ∈ TT := mTT 804 (by decide +kernel) rfl
theorem m_805 : Cond.methodLink RL 21 yX4_end ∈ TT := mTT 805 (by decide +kernel) rfl
theorem m_806 : Cond.instanceMethod yX4_end ∈ TT := mTT 806 (by decide +kernel) rfl
theorem m_807 : Cond.selects RX4 yX4_end yX4_end ∈ TT := mTT 807 (by decide +kernel) rfl
theorem m_808 : Cond.code yX4_end cX4_end 3 (some .int) ∈ TT := mTT 808 (by decide +kernel) rfl
theorem m_809 : Cond.methodLink RL 26 yX4_text ∈ TT := mTT 809 (by decide +kernel) rfl
theorem m_810 : Cond.instanceMethod yX4_text ∈ TT := mTT 810 (by decide +kernel) rfl
theorem m_811 : Cond.selects RX4 yX4_text yX4_text ∈ TT := mTT 811 (by decide +kernel) rfl
theorem m_812 : Cond.code yX4_text cX4_text 3 (some .int) ∈ TT := mTT 812 (by decide +kernel) rfl
theorem m_813 : Cond.methodLink RX4 94 yX4_readsOn ∈ TT := mTT 813 (by decide +kernel) rfl
theorem m_815 : Cond.instanceMethod yX4_readsOn ∈ TT := mTT 815 (by decide +kernel) rfl
theorem m_816 : Cond.code yX4_readsOn cX4_readsOn 2 none ∈ TT := mTT 816 (by decide +kernel) rfl
theorem m_817 : Cond.methodLink RX4 75 yX4_byteAt ∈ TT := mTT 817 (by decide +kernel) rfl
theorem m_819 : Cond.instanceMethod yX4_byteAt ∈ TT := mTT 819 (by decide +kernel) rfl
theorem m_820 : Cond.code yX4_byteAt cX4_byteAt 2 (some .int) ∈ TT := mTT 820 (by decide +kernel) rfl
theorem m_821 : Cond.constantLong RX4 82 (97 : Int64) ∈ TT := mTT 821 (by decide +kernel) rfl
theorem m_822 : Cond.constantLong RX4 84 (122 : Int64) ∈ TT := mTT 822 (by decide +kernel) rfl
theorem m_823 : Cond.constantLong RX4 86 (48 : Int64) ∈ TT := mTT 823 (by decide +kernel) rfl
theorem m_824 : Cond.constantLong RX4 88 (57 : Int64) ∈ TT := mTT 824 (by decide +kernel) rfl
theorem m_825 : Cond.methodLink RX4 90 yX4_fails ∈ TT := mTT 825 (by decide +kernel) rfl
theorem m_827 : Cond.instanceMethod yX4_fails ∈ TT := mTT 827 (by decide +kernel) rfl
theorem m_828 : Cond.code yX4_fails cX4_fails 2 none ∈ TT := mTT 828 (by decide +kernel) rfl
theorem m_829 : Cond.methodLink RX4 114 yX4_readLine ∈ TT := mTT 829 (by decide +kernel) rfl
theorem m_831 : Cond.instanceMethod yX4_readLine ∈ TT := mTT 831 (by decide +kernel) rfl
theorem m_832 : Cond.code yX4_readLine cX4_readLine 2 none ∈ TT := mTT 832 (by decide +kernel) rfl
theorem m_833 : Cond.methodLink RX4 101 yX4_nameHere ∈ TT := mTT 833 (by decide +kernel) rfl
theorem m_835 : Cond.instanceMethod yX4_nameHere ∈ TT := mTT 835 (by decide +kernel) rfl
theorem m_836 : Cond.code yX4_nameHere cX4_nameHere 4 (some .int) ∈ TT := mTT 836 (by decide +kernel) rfl
theorem m_837 : Cond.constantLong RX4 105 (7 : Int64) ∈ TT := mTT 837 (by decide +kernel) rfl
theorem m_838 : Cond.methodLink RX4 111 yX4_readMore ∈ TT := mTT 838 (by decide +kernel) rfl
theorem m_840 : Cond.instanceMethod yX4_readMore ∈ TT := mTT 840 (by decide +kernel) rfl
theorem m_841 : Cond.code yX4_readMore cX4_readMore 3 none ∈ TT := mTT 841 (by decide +kernel) rfl
theorem m_842 : Cond.methodLink RX4 97 yX4_number ∈ TT := mTT 842 (by decide +kernel) rfl
theorem m_844 : Cond.instanceMethod yX4_number ∈ TT := mTT 844 (by decide +kernel) rfl
theorem m_845 : Cond.code yX4_number cX4_number 4 (some .int) ∈ TT := mTT 845 (by decide +kernel) rfl
theorem m_846 : Cond.methodLink RL 30 yX4_fault ∈ TT := mTT 846 (by decide +kernel) rfl
theorem m_847 : Cond.instanceMethod yX4_fault ∈ TT := mTT 847 (by decide +kernel) rfl
theorem m_848 : Cond.selects RX4 yX4_fault yX4_fault ∈ TT := mTT 848 (by decide +kernel) rfl
theorem m_849 : Cond.code yX4_fault cX4_fault 1 (some .int) ∈ TT := mTT 849 (by decide +kernel) rfl
theorem m_850 : Cond.methodLink RL 34 yX4_rule ∈ TT := mTT 850 (by decide +kernel) rfl
theorem m_851 : Cond.instanceMethod yX4_rule ∈ TT := mTT 851 (by decide +kernel) rfl
theorem m_852 : Cond.selects RX4 yX4_rule yX4_rule ∈ TT := mTT 852 (by decide +kernel) rfl
theorem m_853 : Cond.code yX4_rule cX4_rule 3 (some .int) ∈ TT := mTT 853 (by decide +kernel) rfl
theorem m_854 : Cond.methodLink RX4 131 yX4_speedOn ∈ TT := mTT 854 (by decide +kernel) rfl
theorem m_856 : Cond.instanceMethod yX4_speedOn ∈ TT := mTT 856 (by decide +kernel) rfl
theorem m_857 : Cond.code yX4_speedOn cX4_speedOn 2 (some .int) ∈ TT := mTT 857 (by decide +kernel) rfl
theorem m_858 : Cond.methodLink RL 39 yX4_wheel ∈ TT := mTT 858 (by decide +kernel) rfl
theorem m_859 : Cond.instanceMethod yX4_wheel ∈ TT := mTT 859 (by decide +kernel) rfl
theorem m_860 : Cond.selects RX4 yX4_wheel yX4_wheel ∈ TT := mTT 860 (by decide +kernel) rfl
theorem m_861 : Cond.code yX4_wheel cX4_wheel 3 (some .int) ∈ TT := mTT 861 (by decide +kernel) rfl
theorem m_862 : Cond.methodLink RX4 144 yX4_isWheel ∈ TT := mTT 862 (by decide +kernel) rfl
theorem m_864 : Cond.instanceMethod yX4_isWheel ∈ TT := mTT 864 (by decide +kernel) rfl
theorem m_865 : Cond.code yX4_isWheel cX4_isWheel 2 (some .boolean) ∈ TT := mTT 865 (by decide +kernel) rfl
theorem m_866 : Cond.constantLong RX4 148 (5 : Int64) ∈ TT := mTT 866 (by decide +kernel) rfl
theorem m_867 : Cond.methodLink RX4 125 yX4_joinedOn ∈ TT := mTT 867 (by decide +kernel) rfl
theorem m_869 : Cond.instanceMethod yX4_joinedOn ∈ TT := mTT 869 (by decide +kernel) rfl
theorem m_870 : Cond.code yX4_joinedOn cX4_joinedOn 8 (some .int) ∈ TT := mTT 870 (by decide +kernel) rfl
theorem m_871 : Cond.methodLink RL 43 yX4_act ∈ TT := mTT 871 (by decide +kernel) rfl
theorem m_872 : Cond.instanceMethod yX4_act ∈ TT := mTT 872 (by decide +kernel) rfl
theorem m_873 : Cond.selects RX4 yX4_act yX4_act ∈ TT := mTT 873 (by decide +kernel) rfl
theorem m_874 : Cond.code yX4_act cX4_act 2 (some .int) ∈ TT := mTT 874 (by decide +kernel) rfl
theorem m_875 : Cond.methodLink RX4 150 yX4_isAct ∈ TT := mTT 875 (by decide +kernel) rfl
theorem m_877 : Cond.instanceMethod yX4_isAct ∈ TT := mTT 877 (by decide +kernel) rfl
theorem m_878 : Cond.code yX4_isAct cX4_isAct 2 (some .boolean) ∈ TT := mTT 878 (by decide +kernel) rfl
theorem m_879 : Cond.methodLink RL 48 yX4_alter ∈ TT := mTT 879 (by decide +kernel) rfl
theorem m_880 : Cond.instanceMethod yX4_alter ∈ TT := mTT 880 (by decide +kernel) rfl
theorem m_881 : Cond.selects RX4 yX4_alter yX4_alter ∈ TT := mTT 881 (by decide +kernel) rfl
theorem m_882 : Cond.code yX4_alter cX4_alter 5 (some .int) ∈ TT := mTT 882 (by decide +kernel) rfl
theorem m_883 : Cond.constantLong RX4 153 (3 : Int64) ∈ TT := mTT 883 (by decide +kernel) rfl
theorem m_884 : Cond.constantLong RX4 155 (20 : Int64) ∈ TT := mTT 884 (by decide +kernel) rfl
theorem m_885 : Cond.constantLong RX4 157 (9 : Int64) ∈ TT := mTT 885 (by decide +kernel) rfl
theorem m_886 : Cond.constantLong RX4 159 (9999 : Int64) ∈ TT := mTT 886 (by decide +kernel) rfl
theorem m_887 : Cond.methodLink RX4 161 yX4_puts ∈ TT := mTT 887 (by decide +kernel) rfl
theorem m_889 : Cond.instanceMethod yX4_puts ∈ TT := mTT 889 (by decide +kernel) rfl
theorem m_890 : Cond.code yX4_puts cX4_puts 6 (some .int) ∈ TT := mTT 890 (by decide +kernel) rfl
theorem m_891 : Cond.methodLink RL 52 yX4_shaft ∈ TT := mTT 891 (by decide +kernel) rfl
theorem m_892 : Cond.instanceMethod yX4_shaft ∈ TT := mTT 892 (by decide +kernel) rfl
theorem m_893 : Cond.selects RX4 yX4_shaft yX4_shaft ∈ TT := mTT 893 (by decide +kernel) rfl
theorem m_894 : Cond.code yX4_shaft cX4_shaft 2 (some .int) ∈ TT := mTT 894 (by decide +kernel) rfl
theorem m_895 : Cond.methodLink RL 56 yX4_put ∈ TT := mTT 895 (by decide +kernel) rfl
theorem m_896 : Cond.instanceMethod yX4_put ∈ TT := mTT 896 (by decide +kernel) rfl
theorem m_897 : Cond.selects RX4 yX4_put yX4_put ∈ TT := mTT 897 (by decide +kernel) rfl
theorem m_898 : Cond.code yX4_put cX4_put 5 (some .int) ∈ TT := mTT 898 (by decide +kernel) rfl
theorem m_899 : Cond.methodLink RL 60 yX4_cut ∈ TT := mTT 899 (by decide +kernel) rfl
theorem m_900 : Cond.instanceMethod yX4_cut ∈ TT := mTT 900 (by decide +kernel) rfl
theorem m_901 : Cond.selects RX4 yX4_cut yX4_cut ∈ TT := mTT 901 (by decide +kernel) rfl
theorem m_902 : Cond.code yX4_cut cX4_cut 2 (some .int) ∈ TT := mTT 902 (by decide +kernel) rfl
theorem m_903 : Cond.methodLink RL 64 yX4_set ∈ TT := mTT 903 (by decide +kernel) rfl
theorem m_904 : Cond.instanceMethod yX4_set ∈ TT := mTT 904 (by decide +kernel) rfl
theorem m_905 : Cond.selects RX4 yX4_set yX4_set ∈ TT := mTT 905 (by decide +kernel) rfl
theorem m_906 : Cond.code yX4_set cX4_set 3 (some .int) ∈ TT := mTT 906 (by decide +kernel) rfl
theorem m_907 : Cond.constantLong RX4 165 (203 : Int64) ∈ TT := mTT 907 (by decide +kernel) rfl
theorem m_908 : Cond.methodLink RL 68 yX4_add ∈ TT := mTT 908 (by decide +kernel) rfl
theorem m_909 : Cond.instanceMethod yX4_add ∈ TT := mTT 909 (by decide +kernel) rfl
theorem m_910 : Cond.selects RX4 yX4_add yX4_add ∈ TT := mTT 910 (by decide +kernel) rfl
theorem m_911 : Cond.code yX4_add cX4_add 2 (some .int) ∈ TT := mTT 911 (by decide +kernel) rfl
theorem m_912 : Cond.methodLink RX4 167 yX4_adds ∈ TT := mTT 912 (by decide +kernel) rfl
theorem m_914 : Cond.instanceMethod yX4_adds ∈ TT := mTT 914 (by decide +kernel) rfl
theorem m_915 : Cond.code yX4_adds cX4_adds 2 (some .int) ∈ TT := mTT 915 (by decide +kernel) rfl
theorem m_916 : Cond.methodLink RL 72 yX4_drop ∈ TT := mTT 916 (by decide +kernel) rfl
theorem m_917 : Cond.instanceMethod yX4_drop ∈ TT := mTT 917 (by decide +kernel) rfl
theorem m_918 : Cond.selects RX4 yX4_drop yX4_drop ∈ TT := mTT 918 (by decide +kernel) rfl
theorem m_919 : Cond.code yX4_drop cX4_drop 2 (some .int) ∈ TT := mTT 919 (by decide +kernel) rfl
theorem m_920 : Cond.methodLink RL 76 yX4_turn ∈ TT := mTT 920 (by decide +kernel) rfl
theorem m_921 : Cond.instanceMethod yX4_turn ∈ TT := mTT 921 (by decide +kernel) rfl
theorem m_922 : Cond.selects RX4 yX4_turn yX4_turn ∈ TT := mTT 922 (by decide +kernel) rfl
theorem m_923 : Cond.code yX4_turn cX4_turn 2 (some .int) ∈ TT := mTT 923 (by decide +kernel) rfl
theorem m_924 : Cond.methodLink RX4 137 yX4_actOn ∈ TT := mTT 924 (by decide +kernel) rfl
theorem m_926 : Cond.instanceMethod yX4_actOn ∈ TT := mTT 926 (by decide +kernel) rfl
theorem m_927 : Cond.code yX4_actOn cX4_actOn 6 none ∈ TT := mTT 927 (by decide +kernel) rfl
theorem m_928 : Cond.methodLink RL 80 yX4_ticks ∈ TT := mTT 928 (by decide +kernel) rfl
theorem m_929 : Cond.instanceMethod yX4_ticks ∈ TT := mTT 929 (by decide +kernel) rfl
theorem m_930 : Cond.selects RX4 yX4_ticks yX4_ticks ∈ TT := mTT 930 (by decide +kernel) rfl
theorem m_931 : Cond.code yX4_ticks cX4_ticks 4 (some .int) ∈ TT := mTT 931 (by decide +kernel) rfl
theorem m_932 : Cond.constantLong RX4 170 (100 : Int64) ∈ TT := mTT 932 (by decide +kernel) rfl
theorem m_933 : Cond.methodLink RX4 172 yX4_tickOn ∈ TT := mTT 933 (by decide +kernel) rfl
theorem m_935 : Cond.instanceMethod yX4_tickOn ∈ TT := mTT 935 (by decide +kernel) rfl
theorem m_936 : Cond.code yX4_tickOn cX4_tickOn 4 none ∈ TT := mTT 936 (by decide +kernel) rfl
theorem m_937 : Cond.methodLink RX4 141 yX4_lossesOn ∈ TT := mTT 937 (by decide +kernel) rfl
theorem m_939 : Cond.instanceMethod yX4_lossesOn ∈ TT := mTT 939 (by decide +kernel) rfl
theorem m_940 : Cond.code yX4_lossesOn cX4_lossesOn 6 none ∈ TT := mTT 940 (by decide +kernel) rfl
theorem m_941 : Cond.methodLink RL 84 yX4_runs ∈ TT := mTT 941 (by decide +kernel) rfl
theorem m_942 : Cond.instanceMethod yX4_runs ∈ TT := mTT 942 (by decide +kernel) rfl
theorem m_943 : Cond.selects RX4 yX4_runs yX4_runs ∈ TT := mTT 943 (by decide +kernel) rfl
theorem m_944 : Cond.code yX4_runs cX4_runs 4 (some .int) ∈ TT := mTT 944 (by decide +kernel) rfl
theorem m_945 : Cond.methodLink RX4 180 yX4_isLong ∈ TT := mTT 945 (by decide +kernel) rfl
theorem m_946 : Cond.static yX4_isLong ∈ TT := mTT 946 (by decide +kernel) rfl
theorem m_947 : Cond.code yX4_isLong cX4_isLong 1 (some .boolean) ∈ TT := mTT 947 (by decide +kernel) rfl
theorem m_948 : Cond.constantLong RX4 123 (200 : Int64) ∈ TT := mTT 948 (by decide +kernel) rfl
theorem m_949 : Cond.constantLong RX4 183 (4 : Int64) ∈ TT := mTT 949 (by decide +kernel) rfl
theorem m_950 : Cond.methodLink RX4 185 yX4_ticksGo ∈ TT := mTT 950 (by decide +kernel) rfl
theorem m_952 : Cond.instanceMethod yX4_ticksGo ∈ TT := mTT 952 (by decide +kernel) rfl
theorem m_953 : Cond.code yX4_ticksGo cX4_ticksGo 4 (some .int) ∈ TT := mTT 953 (by decide +kernel) rfl
theorem m_954 : Cond.methodLink RX4 176 yX4_copies ∈ TT := mTT 954 (by decide +kernel) rfl
theorem m_956 : Cond.instanceMethod yX4_copies ∈ TT := mTT 956 (by decide +kernel) rfl
theorem m_957 : Cond.code yX4_copies cX4_copies 4 none ∈ TT := mTT 957 (by decide +kernel) rfl
theorem m_958 : Cond.methodLink RX4 188 yX4_lackThen ∈ TT := mTT 958 (by decide +kernel) rfl
theorem m_960 : Cond.instanceMethod yX4_lackThen ∈ TT := mTT 960 (by decide +kernel) rfl
theorem m_961 : Cond.code yX4_lackThen cX4_lackThen 1 (some .int) ∈ TT := mTT 961 (by decide +kernel) rfl
theorem m_962 : Cond.methodLink RX4 191 yX4_swingOn ∈ TT := mTT 962 (by decide +kernel) rfl
theorem m_964 : Cond.instanceMethod yX4_swingOn ∈ TT := mTT 964 (by decide +kernel) rfl
theorem m_965 : Cond.code yX4_swingOn cX4_swingOn 4 (some .int) ∈ TT := mTT 965 (by decide +kernel) rfl
theorem m_966 : Cond.methodLink RL 88 yX4_ahead ∈ TT := mTT 966 (by decide +kernel) rfl
theorem m_967 : Cond.instanceMethod yX4_ahead ∈ TT := mTT 967 (by decide +kernel) rfl
theorem m_968 : Cond.selects RX4 yX4_ahead yX4_ahead ∈ TT := mTT 968 (by decide +kernel) rfl
theorem m_969 : Cond.code yX4_ahead cX4_ahead 3 (some .int) ∈ TT := mTT 969 (by decide +kernel) rfl
theorem m_970 : Cond.methodLink RL 92 yX4_when ∈ TT := mTT 970 (by decide +kernel) rfl
theorem m_971 : Cond.instanceMethod yX4_when ∈ TT := mTT 971 (by decide +kernel) rfl
theorem m_972 : Cond.selects RX4 yX4_when yX4_when ∈ TT := mTT 972 (by decide +kernel) rfl
theorem m_973 : Cond.code yX4_when cX4_when 3 (some .int) ∈ TT := mTT 973 (by decide +kernel) rfl
theorem m_974 : Cond.methodLink RL 96 yX4_again ∈ TT := mTT 974 (by decide +kernel) rfl
theorem m_975 : Cond.instanceMethod yX4_again ∈ TT := mTT 975 (by decide +kernel) rfl
theorem m_976 : Cond.selects RX4 yX4_again yX4_again ∈ TT := mTT 976 (by decide +kernel) rfl
theorem m_977 : Cond.code yX4_again cX4_again 5 (some .int) ∈ TT := mTT 977 (by decide +kernel) rfl
theorem m_978 : Cond.methodLink RL 100 yX4_mass ∈ TT := mTT 978 (by decide +kernel) rfl
theorem m_979 : Cond.instanceMethod yX4_mass ∈ TT := mTT 979 (by decide +kernel) rfl
theorem m_980 : Cond.selects RX4 yX4_mass yX4_mass ∈ TT := mTT 980 (by decide +kernel) rfl
theorem m_981 : Cond.code yX4_mass cX4_mass 4 (some .int) ∈ TT := mTT 981 (by decide +kernel) rfl
theorem m_982 : Cond.methodLink RX4 194 yX4_mostAt ∈ TT := mTT 982 (by decide +kernel) rfl
theorem m_984 : Cond.instanceMethod yX4_mostAt ∈ TT := mTT 984 (by decide +kernel) rfl
theorem m_985 : Cond.code yX4_mostAt cX4_mostAt 10 (some .int) ∈ TT := mTT 985 (by decide +kernel) rfl
theorem m_986 : Cond.methodLink RL 104 yX4_kind ∈ TT := mTT 986 (by decide +kernel) rfl
theorem m_987 : Cond.instanceMethod yX4_kind ∈ TT := mTT 987 (by decide +kernel) rfl
theorem m_988 : Cond.selects RX4 yX4_kind yX4_kind ∈ TT := mTT 988 (by decide +kernel) rfl
theorem m_989 : Cond.code yX4_kind cX4_kind 4 (some .int) ∈ TT := mTT 989 (by decide +kernel) rfl
theorem m_990 : Cond.methodLink RL 108 yX4_bears ∈ TT := mTT 990 (by decide +kernel) rfl
theorem m_991 : Cond.instanceMethod yX4_bears ∈ TT := mTT 991 (by decide +kernel) rfl
theorem m_992 : Cond.selects RX4 yX4_bears yX4_bears ∈ TT := mTT 992 (by decide +kernel) rfl
theorem m_993 : Cond.code yX4_bears cX4_bears 4 (some .int) ∈ TT := mTT 993 (by decide +kernel) rfl
theorem m_994 : Cond.methodLink RL 112 yX4_swap ∈ TT := mTT 994 (by decide +kernel) rfl
theorem m_995 : Cond.instanceMethod yX4_swap ∈ TT := mTT 995 (by decide +kernel) rfl
theorem m_996 : Cond.selects RX4 yX4_swap yX4_swap ∈ TT := mTT 996 (by decide +kernel) rfl
theorem m_997 : Cond.code yX4_swap cX4_swap 8 (some .int) ∈ TT := mTT 997 (by decide +kernel) rfl
theorem m_998 : Cond.methodLink RL 116 yX4_omit ∈ TT := mTT 998 (by decide +kernel) rfl
theorem m_999 : Cond.instanceMethod yX4_omit ∈ TT := mTT 999 (by decide +kernel) rfl
theorem m_1000 : Cond.selects RX4 yX4_omit yX4_omit ∈ TT := mTT 1000 (by decide +kernel) rfl
theorem m_1001 : Cond.code yX4_omit cX4_omit 7 (some .int) ∈ TT := mTT 1001 (by decide +kernel) rfl
theorem m_1002 : Cond.methodLink RL 120 yX4_off ∈ TT := mTT 1002 (by decide +kernel) rfl
theorem m_1003 : Cond.instanceMethod yX4_off ∈ TT := mTT 1003 (by decide +kernel) rfl
theorem m_1004 : Cond.selects RX4 yX4_off yX4_off ∈ TT := mTT 1004 (by decide +kernel) rfl
theorem m_1005 : Cond.code yX4_off cX4_off 7 (some .int) ∈ TT := mTT 1005 (by decide +kernel) rfl
theorem m_1006 : Cond.methodLink RL 125 yX4_luck ∈ TT := mTT 1006 (by decide +kernel) rfl
theorem m_1007 : Cond.instanceMethod yX4_luck ∈ TT := mTT 1007 (by decide +kernel) rfl
theorem m_1008 : Cond.selects RX4 yX4_luck yX4_luck ∈ TT := mTT 1008 (by decide +kernel) rfl
theorem m_1009 : Cond.code yX4_luck cX4_luck 4 (some .long) ∈ TT := mTT 1009 (by decide +kernel) rfl
theorem m_1010 : Cond.constantLong RX4 198 (10 : Int64) ∈ TT := mTT 1010 (by decide +kernel) rfl
theorem m_1011 : Cond.constantLong RX4 204 (8 : Int64) ∈ TT := mTT 1011 (by decide +kernel) rfl
theorem m_1012 : Cond.methodLink RX4 206 yX4_byFails ∈ TT := mTT 1012 (by decide +kernel) rfl
theorem m_1014 : Cond.instanceMethod yX4_byFails ∈ TT := mTT 1014 (by decide +kernel) rfl
theorem m_1015 : Cond.code yX4_byFails cX4_byFails 14 (some .long) ∈ TT := mTT 1015 (by decide +kernel) rfl
theorem m_1016 : Cond.methodLink RX4 200 yX4_lowest ∈ TT := mTT 1016 (by decide +kernel) rfl
theorem m_1017 : Cond.static yX4_lowest ∈ TT := mTT 1017 (by decide +kernel) rfl
theorem m_1018 : Cond.code yX4_lowest cX4_lowest 11 (some .long) ∈ TT := mTT 1018 (by decide +kernel) rfl
theorem m_1019 : Cond.constantLong RX4 210 (-1 : Int64) ∈ TT := mTT 1019 (by decide +kernel) rfl
theorem m_1020 : Cond.methodLink RL 129 yX4_mean ∈ TT := mTT 1020 (by decide +kernel) rfl
theorem m_1021 : Cond.instanceMethod yX4_mean ∈ TT := mTT 1021 (by decide +kernel) rfl
theorem m_1022 : Cond.selects RX4 yX4_mean yX4_mean ∈ TT := mTT 1022 (by decide +kernel) rfl
theorem m_1023 : Cond.code yX4_mean cX4_mean 4 (some .long) ∈ TT := mTT 1023 (by decide +kernel) rfl
theorem m_1024 : Cond.methodLink RL 133 yX4_see ∈ TT := mTT 1024 (by decide +kernel) rfl
theorem m_1025 : Cond.instanceMethod yX4_see ∈ TT := mTT 1025 (by decide +kernel) rfl
theorem m_1026 : Cond.selects RX4 yX4_see yX4_see ∈ TT := mTT 1026 (by decide +kernel) rfl
theorem m_1027 : Cond.code yX4_see cX4_see 4 (some .int) ∈ TT := mTT 1027 (by decide +kernel) rfl
theorem m_1028 : Cond.constantLong RX4 212 (40 : Int64) ∈ TT := mTT 1028 (by decide +kernel) rfl
theorem m_1029 : Cond.constantLong RX4 214 (9999999 : Int64) ∈ TT := mTT 1029 (by decide +kernel) rfl
theorem m_1030 : Cond.methodLink RL 137 yX4_forget ∈ TT := mTT 1030 (by decide +kernel) rfl
theorem m_1031 : Cond.instanceMethod yX4_forget ∈ TT := mTT 1031 (by decide +kernel) rfl
theorem m_1032 : Cond.selects RX4 yX4_forget yX4_forget ∈ TT := mTT 1032 (by decide +kernel) rfl
theorem m_1033 : Cond.code yX4_forget cX4_forget 3 (some .int) ∈ TT := mTT 1033 (by decide +kernel) rfl
theorem m_1034 : Cond.methodLink RL 141 yX4_kinds ∈ TT := mTT 1034 (by decide +kernel) rfl
theorem m_1035 : Cond.instanceMethod yX4_kinds ∈ TT := mTT 1035 (by decide +kernel) rfl
theorem m_1036 : Cond.selects RX4 yX4_kinds yX4_kinds ∈ TT := mTT 1036 (by decide +kernel) rfl
theorem m_1037 : Cond.code yX4_kinds cX4_kinds 2 (some .int) ∈ TT := mTT 1037 (by decide +kernel) rfl
theorem m_1038 : Cond.methodLink RX4 220 yX4_numbersAt ∈ TT := mTT 1038 (by decide +kernel) rfl
theorem m_1040 : Cond.instanceMethod yX4_numbersAt ∈ TT := mTT 1040 (by decide +kernel) rfl
theorem m_1041 : Cond.code yX4_numbersAt cX4_numbersAt 7 (some .int) ∈ TT := mTT 1041 (by decide +kernel) rfl
theorem m_1042 : Cond.methodLink RX4 216 yX4_isAsSeen ∈ TT := mTT 1042 (by decide +kernel) rfl
theorem m_1044 : Cond.instanceMethod yX4_isAsSeen ∈ TT := mTT 1044 (by decide +kernel) rfl
theorem m_1045 : Cond.code yX4_isAsSeen cX4_isAsSeen 8 (some .boolean) ∈ TT := mTT 1045 (by decide +kernel) rfl
theorem m_1046 : Cond.methodLink RL 145 yX4_losses ∈ TT := mTT 1046 (by decide +kernel) rfl
theorem m_1047 : Cond.instanceMethod yX4_losses ∈ TT := mTT 1047 (by decide +kernel) rfl
theorem m_1048 : Cond.selects RX4 yX4_losses yX4_losses ∈ TT := mTT 1048 (by decide +kernel) rfl
theorem m_1049 : Cond.code yX4_losses cX4_losses 2 (some .int) ∈ TT := mTT 1049 (by decide +kernel) rfl
theorem m_1050 : Cond.methodLink RL 149 yX4_ask ∈ TT := mTT 1050 (by decide +kernel) rfl
theorem m_1051 : Cond.instanceMethod yX4_ask ∈ TT := mTT 1051 (by decide +kernel) rfl
theorem m_1052 : Cond.selects RX4 yX4_ask yX4_ask ∈ TT := mTT 1052 (by decide +kernel) rfl
theorem m_1053 : Cond.code yX4_ask cX4_ask 8 (some .int) ∈ TT := mTT 1053 (by decide +kernel) rfl
theorem m_1054 : Cond.methodLink RX4 224 yX4_worstAt ∈ TT := mTT 1054 (by decide +kernel) rfl
theorem m_1056 : Cond.instanceMethod yX4_worstAt ∈ TT := mTT 1056 (by decide +kernel) rfl
theorem m_1057 : Cond.code yX4_worstAt cX4_worstAt 7 (some .int) ∈ TT := mTT 1057 (by decide +kernel) rfl
theorem m_1058 : Cond.methodLink RL 153 yX4_drift ∈ TT := mTT 1058 (by decide +kernel) rfl
theorem m_1059 : Cond.instanceMethod yX4_drift ∈ TT := mTT 1059 (by decide +kernel) rfl
theorem m_1060 : Cond.selects RX4 yX4_drift yX4_drift ∈ TT := mTT 1060 (by decide +kernel) rfl
theorem m_1061 : Cond.code yX4_drift cX4_drift 6 (some .int) ∈ TT := mTT 1061 (by decide +kernel) rfl
theorem m_1062 : Cond.constant RX4 227 (1103515245 : Int32) ∈ TT := mTT 1062 (by decide +kernel) rfl
theorem m_1063 : Cond.methodLink RL 157 yX4_keep ∈ TT := mTT 1063 (by decide +kernel) rfl
theorem m_1064 : Cond.instanceMethod yX4_keep ∈ TT := mTT 1064 (by decide +kernel) rfl
theorem m_1065 : Cond.selects RX4 yX4_keep yX4_keep ∈ TT := mTT 1065 (by decide +kernel) rfl
theorem m_1066 : Cond.code yX4_keep cX4_keep 3 (some .int) ∈ TT := mTT 1066 (by decide +kernel) rfl
theorem m_1067 : Cond.methodLink RL 161 yX4_back ∈ TT := mTT 1067 (by decide +kernel) rfl
theorem m_1068 : Cond.instanceMethod yX4_back ∈ TT := mTT 1068 (by decide +kernel) rfl
theorem m_1069 : Cond.selects RX4 yX4_back yX4_back ∈ TT := mTT 1069 (by decide +kernel) rfl
theorem m_1070 : Cond.code yX4_back cX4_back 2 (some .int) ∈ TT := mTT 1070 (by decide +kernel) rfl
theorem m_1071 : Cond.methodLink RL 165 yX4_sheet ∈ TT := mTT 1071 (by decide +kernel) rfl
theorem m_1072 : Cond.instanceMethod yX4_sheet ∈ TT := mTT 1072 (by decide +kernel) rfl
theorem m_1073 : Cond.selects RX4 yX4_sheet yX4_sheet ∈ TT := mTT 1073 (by decide +kernel) rfl
theorem m_1074 : Cond.code yX4_sheet cX4_sheet 5 (some .int) ∈ TT := mTT 1074 (by decide +kernel) rfl
theorem m_1075 : Cond.constantLong RX4 228 (2 : Int64) ∈ TT := mTT 1075 (by decide +kernel) rfl
theorem m_1076 : Cond.methodLink RL 169 yX4_lay ∈ TT := mTT 1076 (by decide +kernel) rfl
theorem m_1077 : Cond.instanceMethod yX4_lay ∈ TT := mTT 1077 (by decide +kernel) rfl
theorem m_1078 : Cond.selects RX4 yX4_lay yX4_lay ∈ TT := mTT 1078 (by decide +kernel) rfl
theorem m_1079 : Cond.code yX4_lay cX4_lay 4 (some .int) ∈ TT := mTT 1079 (by decide +kernel) rfl
theorem m_1080 : Cond.methodLink RL 174 yX4_read ∈ TT := mTT 1080 (by decide +kernel) rfl
theorem m_1081 : Cond.instanceMethod yX4_read ∈ TT := mTT 1081 (by decide +kernel) rfl
theorem m_1082 : Cond.selects RX4 yX4_read yX4_read ∈ TT := mTT 1082 (by decide +kernel) rfl
theorem m_1083 : Cond.code yX4_read cX4_read 9 (some .int) ∈ TT := mTT 1083 (by decide +kernel) rfl
theorem m_1084 : Cond.methodLink RL 178 yX4_torn ∈ TT := mTT 1084 (by decide +kernel) rfl
theorem m_1085 : Cond.instanceMethod yX4_torn ∈ TT := mTT 1085 (by decide +kernel) rfl
theorem m_1086 : Cond.selects RX4 yX4_torn yX4_torn ∈ TT := mTT 1086 (by decide +kernel) rfl
theorem m_1087 : Cond.code yX4_torn cX4_torn 1 (some .int) ∈ TT := mTT 1087 (by decide +kernel) rfl
theorem m_1088 : Cond.methodLink RL 182 yX4_count ∈ TT := mTT 1088 (by decide +kernel) rfl
theorem m_1089 : Cond.instanceMethod yX4_count ∈ TT := mTT 1089 (by decide +kernel) rfl
theorem m_1090 : Cond.selects RX4 yX4_count yX4_count ∈ TT := mTT 1090 (by decide +kernel) rfl
theorem m_1091 : Cond.code yX4_count cX4_count 5 (some .int) ∈ TT := mTT 1091 (by decide +kernel) rfl
theorem m_1092 : Cond.fieldLink RJ0 9 RJ0 "value" "[B" ∈ TT := mTT 1092 (by decide +kernel) rfl
theorem m_1093 : Cond.fieldLink RJ0 15 RJ0 "coder" "B" ∈ TT := mTT 1093 (by decide +kernel) rfl
theorem mi_X0 : ∀ w ∈ u_ws RX0 TX0 13, w ∈ TT := mTTs [103, 105, 107, 109, 111, 113, 115, 117, 119, 121, 123, 125, 127] (by decide +kernel) (by decide +kernel)
theorem cl_X0 : fw_Cl 0 RX0 TX0 13 tyX0 := ⟨rfl, mi_X0, tyX0_ok, nmX0⟩
theorem mi_X1 : ∀ w ∈ u_ws RX1 TX1 4, w ∈ TT := mTTs [181, 183, 185, 187] (by decide +kernel) (by decide +kernel)
theorem cl_X1 : fw_Cl 1 RX1 TX1 4 tyX1 := ⟨rfl, mi_X1, tyX1_ok, nmX1⟩
theorem mi_X2 : ∀ w ∈ u_ws RX2 TX2 8, w ∈ TT := mTTs [148, 150, 152, 154, 156, 158, 160, 162] (by decide +kernel) (by decide +kernel)
theorem cl_X2 : fw_Cl 2 RX2 TX2 8 tyX2 := ⟨rfl, mi_X2, tyX2_ok, nmX2⟩
theorem mi_X3 : ∀ w ∈ u_ws RX3 TX3 14, w ∈ TT := mTTs [204, 206, 208, 210, 212, 214, 216, 218, 220, 222, 224, 226, 228, 230] (by decide +kernel) (by decide +kernel)
theorem cl_X3 : fw_Cl 3 RX3 TX3 14 tyX3 := ⟨rfl, mi_X3, tyX3_ok, nmX3⟩
theorem mi_X4 : ∀ w ∈ u_ws RX4 TX4 26, w ∈ TT := mTTs [744, 746, 748, 750, 752, 754, 756, 758, 760, 762, 764, 766, 768, 770, 772, 774, 776, 778, 780, 782, 784, 786, 788, 790, 792, 794] (by decide +kernel) (by decide +kernel)
theorem cl_X4 : fw_Cl 4 RX4 TX4 26 tyX4 := ⟨rfl, mi_X4, tyX4_ok, nmX4⟩
theorem mt_X0_init : fw_Mt yX0_init cX0_init 1 none 0 := ⟨m_72, m_50, by decide +kernel⟩
theorem mt_X0_clear : fw_Mt yX0_clear cX0_clear 1 none 0 := ⟨m_259, m_50, by decide +kernel⟩
theorem mv_X0_clear : fw_Vt yX0_clear := ⟨m_257, m_258⟩
theorem mt_X0_clearSums : fw_Mt yX0_clearSums cX0_clearSums 1 none 0 := ⟨m_263, m_50, by decide +kernel⟩
theorem mv_X0_clearSums : fw_Vt yX0_clearSums := ⟨m_261, m_262⟩
theorem mt_X0_become : fw_Mt yX0_become cX0_become 3 none 1 := ⟨m_388, m_50, by decide +kernel⟩
theorem mv_X0_become : fw_Vt yX0_become := ⟨m_386, m_387⟩
theorem mt_X0_startAs : fw_Mt yX0_startAs cX0_startAs 2 none 1 := ⟨m_520, m_50, by decide +kernel⟩
theorem mv_X0_startAs : fw_Vt yX0_startAs := ⟨m_518, m_519⟩
theorem mt_X0_hasWheel : fw_Mt yX0_hasWheel cX0_hasWheel 2 (some .boolean) 1 := ⟨m_420, m_50, by decide +kernel⟩
theorem mv_X0_hasWheel : fw_Vt yX0_hasWheel := ⟨m_418, m_419⟩
theorem mt_X0_hasAct : fw_Mt yX0_hasAct cX0_hasAct 2 (some .boolean) 1 := ⟨m_439, m_50, by decide +kernel⟩
theorem mv_X0_hasAct : fw_Vt yX0_hasAct := ⟨m_437, m_438⟩
theorem mt_X0_appendWheel : fw_Mt yX0_appendWheel cX0_appendWheel 4 (some .int) 3 := ⟨m_369, m_50, by decide +kernel⟩
theorem mv_X0_appendWheel : fw_Vt yX0_appendWheel := ⟨m_367, m_368⟩
theorem mt_X0_appendAct : fw_Mt yX0_appendAct cX0_appendAct 2 (some .int) 1 := ⟨m_384, m_50, by decide +kernel⟩
theorem mv_X0_appendAct : fw_Vt yX0_appendAct := ⟨m_382, m_383⟩
theorem mt_X0_shaftSpeed : fw_Mt yX0_shaftSpeed cX0_shaftSpeed 1 (some .int) 0 := ⟨m_401, m_50, by decide +kernel⟩
theorem mv_X0_shaftSpeed : fw_Vt yX0_shaftSpeed := ⟨m_399, m_400⟩
theorem mt_X0_allSwing : fw_Mt yX0_allSwing cX0_allSwing 1 (some .int) 0 := ⟨m_527, m_50, by decide +kernel⟩
theorem mv_X0_allSwing : fw_Vt yX0_allSwing := ⟨m_525, m_526⟩
theorem mt_X0_sumOfWheels : fw_Mt yX0_sumOfWheels cX0_sumOfWheels 4 (some .int) 1 := ⟨m_531, m_50, by decide +kernel⟩
theorem mv_X0_sumOfWheels : fw_Vt yX0_sumOfWheels := ⟨m_529, m_530⟩
theorem mt_X0_swingsAs : fw_Mt yX0_swingsAs cX0_swingsAs 3 (some .boolean) 1 := ⟨m_548, m_50, by decide +kernel⟩
theorem mv_X0_swingsAs : fw_Vt yX0_swingsAs := ⟨m_546, m_547⟩
theorem mt_X0_dueNumber : fw_Mt yX0_dueNumber cX0_dueNumber 1 (some .int) 0 := ⟨m_412, m_50, by decide +kernel⟩
theorem mv_X0_dueNumber : fw_Vt yX0_dueNumber := ⟨m_410, m_411⟩
theorem mt_X0_dueAct : fw_Mt yX0_dueAct cX0_dueAct 1 (some .int) 0 := ⟨m_408, m_50, by decide +kernel⟩
theorem mv_X0_dueAct : fw_Vt yX0_dueAct := ⟨m_406, m_407⟩
theorem mt_X0_neverJoin : fw_Mt yX0_neverJoin cX0_neverJoin 3 none 1 := ⟨m_587, m_50, by decide +kernel⟩
theorem mv_X0_neverJoin : fw_Vt yX0_neverJoin := ⟨m_585, m_586⟩
theorem mt_X0_perform : fw_Mt yX0_perform cX0_perform 2 none 1 := ⟨m_484, m_50, by decide +kernel⟩
theorem mv_X0_perform : fw_Vt yX0_perform := ⟨m_482, m_483⟩
theorem mt_X0_takeLoad : fw_Mt yX0_takeLoad cX0_takeLoad 3 none 1 := ⟨m_488, m_50, by decide +kernel⟩
theorem mv_X0_takeLoad : fw_Vt yX0_takeLoad := ⟨m_487, m_12⟩
theorem mt_X0_joinWheel : fw_Mt yX0_joinWheel cX0_joinWheel 3 none 1 := ⟨m_493, m_50, by decide +kernel⟩
theorem mv_X0_joinWheel : fw_Vt yX0_joinWheel := ⟨m_492, m_13⟩
theorem mt_X0_joinedSwing : fw_Mt yX0_joinedSwing cX0_joinedSwing 4 (some .int) 1 := ⟨m_425, m_50, by decide +kernel⟩
theorem mv_X0_joinedSwing : fw_Vt yX0_joinedSwing := ⟨m_423, m_424⟩
theorem mt_X0_passTick : fw_Mt yX0_passTick cX0_passTick 1 none 0 := ⟨m_506, m_50, by decide +kernel⟩
theorem mv_X0_passTick : fw_Vt yX0_passTick := ⟨m_504, m_505⟩
theorem mt_X0_passTickWith : fw_Mt yX0_passTickWith cX0_passTickWith 4 none 1 := ⟨m_511, m_50, by decide +kernel⟩
theorem mv_X0_passTickWith : fw_Vt yX0_passTickWith := ⟨m_509, m_510⟩
theorem mt_X0_runTicks : fw_Mt yX0_runTicks cX0_runTicks 3 none 1 := ⟨m_502, m_50, by decide +kernel⟩
theorem mv_X0_runTicks : fw_Vt yX0_runTicks := ⟨m_500, m_501⟩
theorem mt_X1_init : fw_Mt yX1_init cX1_init 1 none 0 := ⟨m_171, m_52, by decide +kernel⟩
theorem mt_X1_renew : fw_Mt yX1_renew cX1_renew 4 none 2 := ⟨m_686, m_52, by decide +kernel⟩
theorem mv_X1_renew : fw_Vt yX1_renew := ⟨m_684, m_685⟩
theorem mt_X1_faultAt : fw_Mt yX1_faultAt cX1_faultAt 3 (some .int) 2 := ⟨m_694, m_52, by decide +kernel⟩
theorem mv_X1_faultAt : fw_Vt yX1_faultAt := ⟨m_692, m_693⟩
theorem mt_X1_write : fw_Mt yX1_write cX1_write 3 none 2 := ⟨m_698, m_52, by decide +kernel⟩
theorem mv_X1_write : fw_Vt yX1_write := ⟨m_696, m_697⟩
theorem mt_X2_init : fw_Mt yX2_init cX2_init 1 none 0 := ⟨m_136, m_51, by decide +kernel⟩
theorem mt_X2_append : fw_Mt yX2_append cX2_append 2 (some .int) 1 := ⟨m_243, m_51, by decide +kernel⟩
theorem mv_X2_append : fw_Vt yX2_append := ⟨m_241, m_242⟩
theorem mt_X2_tell : fw_Mt yX2_tell cX2_tell 3 (some .int) 1 := ⟨m_255, m_51, by decide +kernel⟩
theorem mv_X2_tell : fw_Vt yX2_tell := ⟨m_253, m_254⟩
theorem mt_X2_nextToken : fw_Mt yX2_nextToken cX2_nextToken 1 none 0 := ⟨m_267, m_51, by decide +kernel⟩
theorem mv_X2_nextToken : fw_Vt yX2_nextToken := ⟨m_266, m_0⟩
theorem mt_X2_takeName : fw_Mt yX2_takeName cX2_takeName 1 none 0 := ⟨m_274, m_51, by decide +kernel⟩
theorem mv_X2_takeName : fw_Vt yX2_takeName := ⟨m_273, m_1⟩
theorem mt_X2_takeNumber : fw_Mt yX2_takeNumber cX2_takeNumber 1 none 0 := ⟨m_281, m_51, by decide +kernel⟩
theorem mv_X2_takeNumber : fw_Vt yX2_takeNumber := ⟨m_280, m_2⟩
theorem mt_X2_isLetter : fw_Mt yX2_isLetter cX2_isLetter 1 (some .boolean) 1 := ⟨m_270, m_51, by decide +kernel⟩
theorem mt_X2_isFigure : fw_Mt yX2_isFigure cX2_isFigure 1 (some .boolean) 1 := ⟨m_277, m_51, by decide +kernel⟩
theorem mt_X2_takeLine : fw_Mt yX2_takeLine cX2_takeLine 3 none 1 := ⟨m_285, m_51, by decide +kernel⟩
theorem mv_X2_takeLine : fw_Vt yX2_takeLine := ⟨m_284, m_3⟩
theorem mt_X2_takeWheelLine : fw_Mt yX2_takeWheelLine cX2_takeWheelLine 5 none 2 := ⟨m_356, m_51, by decide +kernel⟩
theorem mv_X2_takeWheelLine : fw_Vt yX2_takeWheelLine := ⟨m_355, m_6⟩
theorem mt_X2_takeShaftLine : fw_Mt yX2_takeShaftLine cX2_takeShaftLine 3 none 1 := ⟨m_373, m_51, by decide +kernel⟩
theorem mv_X2_takeShaftLine : fw_Vt yX2_takeShaftLine := ⟨m_372, m_9⟩
theorem mt_X2_takeActLine : fw_Mt yX2_takeActLine cX2_takeActLine 4 none 2 := ⟨m_377, m_51, by decide +kernel⟩
theorem mv_X2_takeActLine : fw_Vt yX2_takeActLine := ⟨m_376, m_10⟩
theorem mt_X2_firstActOf : fw_Mt yX2_firstActOf cX2_firstActOf 1 (some .int) 1 := ⟨m_380, m_51, by decide +kernel⟩
theorem mt_X2_numberWithin : fw_Mt yX2_numberWithin cX2_numberWithin 3 (some .int) 2 := ⟨m_360, m_51, by decide +kernel⟩
theorem mv_X2_numberWithin : fw_Vt yX2_numberWithin := ⟨m_359, m_7⟩
theorem mt_X2_takeStop : fw_Mt yX2_takeStop cX2_takeStop 1 none 0 := ⟨m_365, m_51, by decide +kernel⟩
theorem mv_X2_takeStop : fw_Vt yX2_takeStop := ⟨m_364, m_8⟩
theorem mt_X2_lineOfName : fw_Mt yX2_lineOfName cX2_lineOfName 2 (some .int) 0 := ⟨m_289, m_51, by decide +kernel⟩
theorem mv_X2_lineOfName : fw_Vt yX2_lineOfName := ⟨m_288, m_4⟩
theorem mt_X2_nameOfLine : fw_Mt yX2_nameOfLine cX2_nameOfLine 1 (some (.object "java/lang/String")) 1 := ⟨m_292, m_51, by decide +kernel⟩
theorem mt_X2_tokenIs : fw_Mt yX2_tokenIs cX2_tokenIs 3 (some .boolean) 1 := ⟨m_304, m_51, by decide +kernel⟩
theorem mv_X2_tokenIs : fw_Vt yX2_tokenIs := ⟨m_303, m_5⟩
theorem mt_X3_init : fw_Mt yX3_init cX3_init 2 none 0 := ⟨m_64, m_49, by decide +kernel⟩
theorem mt_X3_feed : fw_Mt yX3_feed cX3_feed 2 (some .int) 1 := ⟨m_236, m_49, by decide +kernel⟩
theorem mv_X3_feed : fw_Vt yX3_feed := ⟨m_234, m_235⟩
theorem mt_X3_end : fw_Mt yX3_end cX3_end 3 (some .int) 1 := ⟨m_247, m_49, by decide +kernel⟩
theorem mv_X3_end : fw_Vt yX3_end := ⟨m_245, m_246⟩
theorem mt_X3_text : fw_Mt yX3_text cX3_text 3 (some .int) 0 := ⟨m_251, m_49, by decide +kernel⟩
theorem mv_X3_text : fw_Vt yX3_text := ⟨m_249, m_250⟩
theorem mt_X3_fault : fw_Mt yX3_fault cX3_fault 1 (some .int) 0 := ⟨m_393, m_49, by decide +kernel⟩
theorem mv_X3_fault : fw_Vt yX3_fault := ⟨m_391, m_392⟩
theorem mt_X3_rule : fw_Mt yX3_rule cX3_rule 2 (some .int) 1 := ⟨m_397, m_49, by decide +kernel⟩
theorem mv_X3_rule : fw_Vt yX3_rule := ⟨m_395, m_396⟩
theorem mt_X3_wheel : fw_Mt yX3_wheel cX3_wheel 3 (some .int) 2 := ⟨m_416, m_49, by decide +kernel⟩
theorem mv_X3_wheel : fw_Vt yX3_wheel := ⟨m_414, m_415⟩
theorem mt_X3_act : fw_Mt yX3_act cX3_act 2 (some .int) 1 := ⟨m_435, m_49, by decide +kernel⟩
theorem mv_X3_act : fw_Vt yX3_act := ⟨m_433, m_434⟩
theorem mt_X3_alter : fw_Mt yX3_alter cX3_alter 4 (some .int) 3 := ⟨m_443, m_49, by decide +kernel⟩
theorem mv_X3_alter : fw_Vt yX3_alter := ⟨m_441, m_442⟩
theorem mt_X3_shaft : fw_Mt yX3_shaft cX3_shaft 3 (some .int) 1 := ⟨m_450, m_49, by decide +kernel⟩
theorem mv_X3_shaft : fw_Vt yX3_shaft := ⟨m_448, m_449⟩
theorem mt_X3_put : fw_Mt yX3_put cX3_put 4 (some .int) 3 := ⟨m_454, m_49, by decide +kernel⟩
theorem mv_X3_put : fw_Vt yX3_put := ⟨m_452, m_453⟩
theorem mt_X3_cut : fw_Mt yX3_cut cX3_cut 3 (some .int) 1 := ⟨m_459, m_49, by decide +kernel⟩
theorem mv_X3_cut : fw_Vt yX3_cut := ⟨m_457, m_458⟩
theorem mt_X3_set : fw_Mt yX3_set cX3_set 3 (some .int) 2 := ⟨m_463, m_49, by decide +kernel⟩
theorem mv_X3_set : fw_Vt yX3_set := ⟨m_461, m_462⟩
theorem mt_X3_add : fw_Mt yX3_add cX3_add 2 (some .int) 1 := ⟨m_467, m_49, by decide +kernel⟩
theorem mv_X3_add : fw_Vt yX3_add := ⟨m_465, m_466⟩
theorem mt_X3_drop : fw_Mt yX3_drop cX3_drop 3 (some .int) 1 := ⟨m_476, m_49, by decide +kernel⟩
theorem mv_X3_drop : fw_Vt yX3_drop := ⟨m_474, m_475⟩
theorem mt_X3_turn : fw_Mt yX3_turn cX3_turn 2 (some .int) 1 := ⟨m_480, m_49, by decide +kernel⟩
theorem mv_X3_turn : fw_Vt yX3_turn := ⟨m_478, m_479⟩
theorem mt_X3_ticks : fw_Mt yX3_ticks cX3_ticks 3 (some .int) 1 := ⟨m_498, m_49, by decide +kernel⟩
theorem mv_X3_ticks : fw_Vt yX3_ticks := ⟨m_496, m_497⟩
theorem mt_X3_runs : fw_Mt yX3_runs cX3_runs 5 (some .int) 2 := ⟨m_516, m_49, by decide +kernel⟩
theorem mv_X3_runs : fw_Vt yX3_runs := ⟨m_514, m_515⟩
theorem mt_X3_ahead : fw_Mt yX3_ahead cX3_ahead 3 (some .int) 2 := ⟨m_535, m_49, by decide +kernel⟩
theorem mv_X3_ahead : fw_Vt yX3_ahead := ⟨m_533, m_534⟩
theorem mt_X3_when : fw_Mt yX3_when cX3_when 3 (some .int) 1 := ⟨m_539, m_49, by decide +kernel⟩
theorem mv_X3_when : fw_Vt yX3_when := ⟨m_537, m_538⟩
theorem mt_X3_again : fw_Mt yX3_again cX3_again 2 (some .int) 0 := ⟨m_543, m_49, by decide +kernel⟩
theorem mv_X3_again : fw_Vt yX3_again := ⟨m_541, m_542⟩
theorem mt_X3_mass : fw_Mt yX3_mass cX3_mass 7 (some .int) 3 := ⟨m_552, m_49, by decide +kernel⟩
theorem mv_X3_mass : fw_Vt yX3_mass := ⟨m_550, m_551⟩
theorem mt_X3_kind : fw_Mt yX3_kind cX3_kind 7 (some .int) 3 := ⟨m_559, m_49, by decide +kernel⟩
theorem mv_X3_kind : fw_Vt yX3_kind := ⟨m_557, m_558⟩
theorem mt_X3_bears : fw_Mt yX3_bears cX3_bears 4 (some .int) 2 := ⟨m_563, m_49, by decide +kernel⟩
theorem mv_X3_bears : fw_Vt yX3_bears := ⟨m_561, m_562⟩
theorem mt_X3_swap : fw_Mt yX3_swap cX3_swap 8 (some .int) 2 := ⟨m_567, m_49, by decide +kernel⟩
theorem mv_X3_swap : fw_Vt yX3_swap := ⟨m_565, m_566⟩
theorem mt_X3_omit : fw_Mt yX3_omit cX3_omit 6 (some .int) 2 := ⟨m_579, m_49, by decide +kernel⟩
theorem mv_X3_omit : fw_Vt yX3_omit := ⟨m_577, m_578⟩
theorem mt_X3_off : fw_Mt yX3_off cX3_off 6 (some .int) 2 := ⟨m_583, m_49, by decide +kernel⟩
theorem mv_X3_off : fw_Vt yX3_off := ⟨m_581, m_582⟩
theorem mt_X3_luck : fw_Mt yX3_luck cX3_luck 7 (some .long) 3 := ⟨m_591, m_49, by decide +kernel⟩
theorem mv_X3_luck : fw_Vt yX3_luck := ⟨m_589, m_590⟩
theorem mt_X3_mean : fw_Mt yX3_mean cX3_mean 7 (some .long) 3 := ⟨m_614, m_49, by decide +kernel⟩
theorem mv_X3_mean : fw_Vt yX3_mean := ⟨m_612, m_613⟩
theorem mt_X3_see : fw_Mt yX3_see cX3_see 4 (some .int) 3 := ⟨m_618, m_49, by decide +kernel⟩
theorem mv_X3_see : fw_Vt yX3_see := ⟨m_616, m_617⟩
theorem mt_X3_forget : fw_Mt yX3_forget cX3_forget 3 (some .int) 1 := ⟨m_623, m_49, by decide +kernel⟩
theorem mv_X3_forget : fw_Vt yX3_forget := ⟨m_621, m_622⟩
theorem mt_X3_kinds : fw_Mt yX3_kinds cX3_kinds 4 (some .int) 1 := ⟨m_627, m_49, by decide +kernel⟩
theorem mv_X3_kinds : fw_Vt yX3_kinds := ⟨m_625, m_626⟩
theorem mt_X3_losses : fw_Mt yX3_losses cX3_losses 2 (some .int) 1 := ⟨m_639, m_49, by decide +kernel⟩
theorem mv_X3_losses : fw_Vt yX3_losses := ⟨m_637, m_638⟩
theorem mt_X3_ask : fw_Mt yX3_ask cX3_ask 8 (some .int) 2 := ⟨m_647, m_49, by decide +kernel⟩
theorem mv_X3_ask : fw_Vt yX3_ask := ⟨m_645, m_646⟩
theorem mt_X3_drift : fw_Mt yX3_drift cX3_drift 7 (some .int) 3 := ⟨m_669, m_49, by decide +kernel⟩
theorem mv_X3_drift : fw_Vt yX3_drift := ⟨m_667, m_668⟩
theorem mt_X3_keep : fw_Mt yX3_keep cX3_keep 3 (some .int) 1 := ⟨m_674, m_49, by decide +kernel⟩
theorem mv_X3_keep : fw_Vt yX3_keep := ⟨m_672, m_673⟩
theorem mt_X3_back : fw_Mt yX3_back cX3_back 2 (some .int) 1 := ⟨m_678, m_49, by decide +kernel⟩
theorem mv_X3_back : fw_Vt yX3_back := ⟨m_676, m_677⟩
theorem mt_X3_sheet : fw_Mt yX3_sheet cX3_sheet 4 (some .int) 3 := ⟨m_682, m_49, by decide +kernel⟩
theorem mv_X3_sheet : fw_Vt yX3_sheet := ⟨m_680, m_681⟩
theorem mt_X3_lay : fw_Mt yX3_lay cX3_lay 6 (some .int) 3 := ⟨m_690, m_49, by decide +kernel⟩
theorem mv_X3_lay : fw_Vt yX3_lay := ⟨m_688, m_689⟩
theorem mt_X3_read : fw_Mt yX3_read cX3_read 10 (some .int) 4 := ⟨m_702, m_49, by decide +kernel⟩
theorem mv_X3_read : fw_Vt yX3_read := ⟨m_700, m_701⟩
theorem mt_X3_torn : fw_Mt yX3_torn cX3_torn 1 (some .int) 0 := ⟨m_706, m_49, by decide +kernel⟩
theorem mv_X3_torn : fw_Vt yX3_torn := ⟨m_704, m_705⟩
theorem mt_X3_count : fw_Mt yX3_count cX3_count 2 (some .int) 1 := ⟨m_710, m_49, by decide +kernel⟩
theorem mv_X3_count : fw_Vt yX3_count := ⟨m_708, m_709⟩
theorem mt_X3_within : fw_Mt yX3_within cX3_within 3 (some .boolean) 3 := ⟨m_239, m_49, by decide +kernel⟩
theorem mt_X3_quotient : fw_Mt yX3_quotient cX3_quotient 2 (some .int) 2 := ⟨m_404, m_49, by decide +kernel⟩
theorem mt_X3_replace : fw_Mt yX3_replace cX3_replace 4 (some .int) 3 := ⟨m_446, m_49, by decide +kernel⟩
theorem mt_X3_addAct : fw_Mt yX3_addAct cX3_addAct 2 (some .int) 1 := ⟨m_471, m_49, by decide +kernel⟩
theorem mv_X3_addAct : fw_Vt yX3_addAct := ⟨m_470, m_11⟩
theorem mt_X3_asksBest : fw_Mt yX3_asksBest cX3_asksBest 2 (some .boolean) 2 := ⟨m_555, m_49, by decide +kernel⟩
theorem mt_X3_doneAsItIs : fw_Mt yX3_doneAsItIs cX3_doneAsItIs 2 (some .int) 1 := ⟨m_571, m_49, by decide +kernel⟩
theorem mv_X3_doneAsItIs : fw_Vt yX3_doneAsItIs := ⟨m_570, m_14⟩
theorem mt_X3_doneSwapped : fw_Mt yX3_doneSwapped cX3_doneSwapped 4 (some .int) 3 := ⟨m_575, m_49, by decide +kernel⟩
theorem mv_X3_doneSwapped : fw_Vt yX3_doneSwapped := ⟨m_574, m_15⟩
theorem mt_X3_asksOdds : fw_Mt yX3_asksOdds cX3_asksOdds 3 (some .boolean) 3 := ⟨m_594, m_49, by decide +kernel⟩
theorem mt_X3_runFailing : fw_Mt yX3_runFailing cX3_runFailing 6 none 2 := ⟨m_599, m_49, by decide +kernel⟩
theorem mv_X3_runFailing : fw_Vt yX3_runFailing := ⟨m_598, m_16⟩
theorem mt_X3_weightOf : fw_Mt yX3_weightOf cX3_weightOf 6 (some .long) 3 := ⟨m_603, m_49, by decide +kernel⟩
theorem mt_X3_allWeights : fw_Mt yX3_allWeights cX3_allWeights 4 (some .long) 1 := ⟨m_606, m_49, by decide +kernel⟩
theorem mt_X3_partOfFraction : fw_Mt yX3_partOfFraction cX3_partOfFraction 12 (some .long) 3 := ⟨m_610, m_49, by decide +kernel⟩
theorem mt_X3_fittingLosses : fw_Mt yX3_fittingLosses cX3_fittingLosses 4 (some .int) 1 := ⟨m_643, m_49, by decide +kernel⟩
theorem mv_X3_fittingLosses : fw_Vt yX3_fittingLosses := ⟨m_642, m_19⟩
theorem mt_X3_trialGoesAsSeen : fw_Mt yX3_trialGoesAsSeen cX3_trialGoesAsSeen 3 (some .boolean) 0 := ⟨m_631, m_49, by decide +kernel⟩
theorem mv_X3_trialGoesAsSeen : fw_Vt yX3_trialGoesAsSeen := ⟨m_630, m_17⟩
theorem mt_X3_trialIsAsSeen : fw_Mt yX3_trialIsAsSeen cX3_trialIsAsSeen 4 (some .boolean) 1 := ⟨m_635, m_49, by decide +kernel⟩
theorem mv_X3_trialIsAsSeen : fw_Vt yX3_trialIsAsSeen := ⟨m_634, m_18⟩
theorem mt_X3_lookAhead : fw_Mt yX3_lookAhead cX3_lookAhead 5 none 2 := ⟨m_651, m_49, by decide +kernel⟩
theorem mv_X3_lookAhead : fw_Vt yX3_lookAhead := ⟨m_650, m_20⟩
theorem mt_X3_leftAtWorst : fw_Mt yX3_leftAtWorst cX3_leftAtWorst 5 (some .int) 2 := ⟨m_661, m_49, by decide +kernel⟩
theorem mv_X3_leftAtWorst : fw_Vt yX3_leftAtWorst := ⟨m_660, m_21⟩
theorem mt_X3_lossesLookingLike : fw_Mt yX3_lossesLookingLike cX3_lossesLookingLike 7 (some .int) 3 := ⟨m_665, m_49, by decide +kernel⟩
theorem mv_X3_lossesLookingLike : fw_Vt yX3_lossesLookingLike := ⟨m_664, m_22⟩
theorem mt_X4_init : fw_Mt yX4_init cX4_init 1 none 0 := ⟨m_716, m_53, by decide +kernel⟩
theorem mt_X4_in : fw_Mt yX4_in cX4_in 6 (some .boolean) 3 := ⟨m_804, m_53, by decide +kernel⟩
theorem mt_X4_feed : fw_Mt yX4_feed cX4_feed 2 (some .int) 1 := ⟨m_800, m_53, by decide +kernel⟩
theorem mv_X4_feed : fw_Vt yX4_feed := ⟨m_798, m_799⟩
theorem mt_X4_end : fw_Mt yX4_end cX4_end 3 (some .int) 1 := ⟨m_808, m_53, by decide +kernel⟩
theorem mv_X4_end : fw_Vt yX4_end := ⟨m_806, m_807⟩
theorem mt_X4_byteAt : fw_Mt yX4_byteAt cX4_byteAt 2 (some .int) 1 := ⟨m_820, m_53, by decide +kernel⟩
theorem mv_X4_byteAt : fw_Vt yX4_byteAt := ⟨m_819, m_24⟩
theorem mt_X4_fails : fw_Mt yX4_fails cX4_fails 2 none 1 := ⟨m_828, m_53, by decide +kernel⟩
theorem mv_X4_fails : fw_Vt yX4_fails := ⟨m_827, m_25⟩
theorem mt_X4_nameHere : fw_Mt yX4_nameHere cX4_nameHere 4 (some .int) 0 := ⟨m_836, m_53, by decide +kernel⟩
theorem mv_X4_nameHere : fw_Vt yX4_nameHere := ⟨m_835, m_27⟩
theorem mt_X4_readsOn : fw_Mt yX4_readsOn cX4_readsOn 2 none 0 := ⟨m_816, m_53, by decide +kernel⟩
theorem mv_X4_readsOn : fw_Vt yX4_readsOn := ⟨m_815, m_23⟩
theorem mt_X4_number : fw_Mt yX4_number cX4_number 4 (some .int) 2 := ⟨m_845, m_53, by decide +kernel⟩
theorem mv_X4_number : fw_Vt yX4_number := ⟨m_844, m_29⟩
theorem mt_X4_readMore : fw_Mt yX4_readMore cX4_readMore 3 none 1 := ⟨m_841, m_53, by decide +kernel⟩
theorem mv_X4_readMore : fw_Vt yX4_readMore := ⟨m_840, m_28⟩
theorem mt_X4_readLine : fw_Mt yX4_readLine cX4_readLine 2 none 0 := ⟨m_832, m_53, by decide +kernel⟩
theorem mv_X4_readLine : fw_Vt yX4_readLine := ⟨m_831, m_26⟩
theorem mt_X4_text : fw_Mt yX4_text cX4_text 3 (some .int) 0 := ⟨m_812, m_53, by decide +kernel⟩
theorem mv_X4_text : fw_Vt yX4_text := ⟨m_810, m_811⟩
theorem mt_X4_fault : fw_Mt yX4_fault cX4_fault 1 (some .int) 0 := ⟨m_849, m_53, by decide +kernel⟩
theorem mv_X4_fault : fw_Vt yX4_fault := ⟨m_847, m_848⟩
theorem mt_X4_isWheel : fw_Mt yX4_isWheel cX4_isWheel 2 (some .boolean) 1 := ⟨m_865, m_53, by decide +kernel⟩
theorem mv_X4_isWheel : fw_Vt yX4_isWheel := ⟨m_864, m_31⟩
theorem mt_X4_isAct : fw_Mt yX4_isAct cX4_isAct 2 (some .boolean) 1 := ⟨m_878, m_53, by decide +kernel⟩
theorem mv_X4_isAct : fw_Vt yX4_isAct := ⟨m_877, m_33⟩
theorem mt_X4_isLong : fw_Mt yX4_isLong cX4_isLong 1 (some .boolean) 1 := ⟨m_947, m_53, by decide +kernel⟩
theorem mt_X4_joinedOn : fw_Mt yX4_joinedOn cX4_joinedOn 8 (some .int) 2 := ⟨m_870, m_53, by decide +kernel⟩
theorem mv_X4_joinedOn : fw_Vt yX4_joinedOn := ⟨m_869, m_32⟩
theorem mt_X4_speedOn : fw_Mt yX4_speedOn cX4_speedOn 2 (some .int) 1 := ⟨m_857, m_53, by decide +kernel⟩
theorem mv_X4_speedOn : fw_Vt yX4_speedOn := ⟨m_856, m_30⟩
theorem mt_X4_actOn : fw_Mt yX4_actOn cX4_actOn 6 none 3 := ⟨m_927, m_53, by decide +kernel⟩
theorem mv_X4_actOn : fw_Vt yX4_actOn := ⟨m_926, m_36⟩
theorem mt_X4_lossesOn : fw_Mt yX4_lossesOn cX4_lossesOn 6 none 1 := ⟨m_940, m_53, by decide +kernel⟩
theorem mv_X4_lossesOn : fw_Vt yX4_lossesOn := ⟨m_939, m_38⟩
theorem mt_X4_tickOn : fw_Mt yX4_tickOn cX4_tickOn 4 none 2 := ⟨m_936, m_53, by decide +kernel⟩
theorem mv_X4_tickOn : fw_Vt yX4_tickOn := ⟨m_935, m_37⟩
theorem mt_X4_swingOn : fw_Mt yX4_swingOn cX4_swingOn 4 (some .int) 1 := ⟨m_965, m_53, by decide +kernel⟩
theorem mv_X4_swingOn : fw_Vt yX4_swingOn := ⟨m_964, m_42⟩
theorem mt_X4_rule : fw_Mt yX4_rule cX4_rule 3 (some .int) 1 := ⟨m_853, m_53, by decide +kernel⟩
theorem mv_X4_rule : fw_Vt yX4_rule := ⟨m_851, m_852⟩
theorem mt_X4_wheel : fw_Mt yX4_wheel cX4_wheel 3 (some .int) 2 := ⟨m_861, m_53, by decide +kernel⟩
theorem mv_X4_wheel : fw_Vt yX4_wheel := ⟨m_859, m_860⟩
theorem mt_X4_act : fw_Mt yX4_act cX4_act 2 (some .int) 1 := ⟨m_874, m_53, by decide +kernel⟩
theorem mv_X4_act : fw_Vt yX4_act := ⟨m_872, m_873⟩
theorem mt_X4_puts : fw_Mt yX4_puts cX4_puts 6 (some .int) 4 := ⟨m_890, m_53, by decide +kernel⟩
theorem mv_X4_puts : fw_Vt yX4_puts := ⟨m_889, m_34⟩
theorem mt_X4_alter : fw_Mt yX4_alter cX4_alter 5 (some .int) 3 := ⟨m_882, m_53, by decide +kernel⟩
theorem mv_X4_alter : fw_Vt yX4_alter := ⟨m_880, m_881⟩
theorem mt_X4_shaft : fw_Mt yX4_shaft cX4_shaft 2 (some .int) 1 := ⟨m_894, m_53, by decide +kernel⟩
theorem mv_X4_shaft : fw_Vt yX4_shaft := ⟨m_892, m_893⟩
theorem mt_X4_put : fw_Mt yX4_put cX4_put 5 (some .int) 3 := ⟨m_898, m_53, by decide +kernel⟩
theorem mv_X4_put : fw_Vt yX4_put := ⟨m_896, m_897⟩
theorem mt_X4_cut : fw_Mt yX4_cut cX4_cut 2 (some .int) 1 := ⟨m_902, m_53, by decide +kernel⟩
theorem mv_X4_cut : fw_Vt yX4_cut := ⟨m_900, m_901⟩
theorem mt_X4_set : fw_Mt yX4_set cX4_set 3 (some .int) 2 := ⟨m_906, m_53, by decide +kernel⟩
theorem mv_X4_set : fw_Vt yX4_set := ⟨m_904, m_905⟩
theorem mt_X4_adds : fw_Mt yX4_adds cX4_adds 2 (some .int) 1 := ⟨m_915, m_53, by decide +kernel⟩
theorem mv_X4_adds : fw_Vt yX4_adds := ⟨m_914, m_35⟩
theorem mt_X4_add : fw_Mt yX4_add cX4_add 2 (some .int) 1 := ⟨m_911, m_53, by decide +kernel⟩
theorem mv_X4_add : fw_Vt yX4_add := ⟨m_909, m_910⟩
theorem mt_X4_drop : fw_Mt yX4_drop cX4_drop 2 (some .int) 1 := ⟨m_919, m_53, by decide +kernel⟩
theorem mv_X4_drop : fw_Vt yX4_drop := ⟨m_917, m_918⟩
theorem mt_X4_turn : fw_Mt yX4_turn cX4_turn 2 (some .int) 1 := ⟨m_923, m_53, by decide +kernel⟩
theorem mv_X4_turn : fw_Vt yX4_turn := ⟨m_921, m_922⟩
theorem mt_X4_ticks : fw_Mt yX4_ticks cX4_ticks 4 (some .int) 1 := ⟨m_931, m_53, by decide +kernel⟩
theorem mv_X4_ticks : fw_Vt yX4_ticks := ⟨m_929, m_930⟩
theorem mt_X4_copies : fw_Mt yX4_copies cX4_copies 4 none 2 := ⟨m_957, m_53, by decide +kernel⟩
theorem mv_X4_copies : fw_Vt yX4_copies := ⟨m_956, m_40⟩
theorem mt_X4_ticksGo : fw_Mt yX4_ticksGo cX4_ticksGo 4 (some .int) 2 := ⟨m_953, m_53, by decide +kernel⟩
theorem mv_X4_ticksGo : fw_Vt yX4_ticksGo := ⟨m_952, m_39⟩
theorem mt_X4_lackThen : fw_Mt yX4_lackThen cX4_lackThen 1 (some .int) 0 := ⟨m_961, m_53, by decide +kernel⟩
theorem mv_X4_lackThen : fw_Vt yX4_lackThen := ⟨m_960, m_41⟩
theorem mt_X4_runs : fw_Mt yX4_runs cX4_runs 4 (some .int) 2 := ⟨m_944, m_53, by decide +kernel⟩
theorem mv_X4_runs : fw_Vt yX4_runs := ⟨m_942, m_943⟩
theorem mt_X4_ahead : fw_Mt yX4_ahead cX4_ahead 3 (some .int) 2 := ⟨m_969, m_53, by decide +kernel⟩
theorem mv_X4_ahead : fw_Vt yX4_ahead := ⟨m_967, m_968⟩
theorem mt_X4_when : fw_Mt yX4_when cX4_when 3 (some .int) 1 := ⟨m_973, m_53, by decide +kernel⟩
theorem mv_X4_when : fw_Vt yX4_when := ⟨m_971, m_972⟩
theorem mt_X4_again : fw_Mt yX4_again cX4_again 5 (some .int) 0 := ⟨m_977, m_53, by decide +kernel⟩
theorem mv_X4_again : fw_Vt yX4_again := ⟨m_975, m_976⟩
theorem mt_X4_mostAt : fw_Mt yX4_mostAt cX4_mostAt 10 (some .int) 5 := ⟨m_985, m_53, by decide +kernel⟩
theorem mv_X4_mostAt : fw_Vt yX4_mostAt := ⟨m_984, m_43⟩
theorem mt_X4_mass : fw_Mt yX4_mass cX4_mass 4 (some .int) 3 := ⟨m_981, m_53, by decide +kernel⟩
theorem mv_X4_mass : fw_Vt yX4_mass := ⟨m_979, m_980⟩
theorem mt_X4_kind : fw_Mt yX4_kind cX4_kind 4 (some .int) 3 := ⟨m_989, m_53, by decide +kernel⟩
theorem mv_X4_kind : fw_Vt yX4_kind := ⟨m_987, m_988⟩
theorem mt_X4_bears : fw_Mt yX4_bears cX4_bears 4 (some .int) 2 := ⟨m_993, m_53, by decide +kernel⟩
theorem mv_X4_bears : fw_Vt yX4_bears := ⟨m_991, m_992⟩
theorem mt_X4_swap : fw_Mt yX4_swap cX4_swap 8 (some .int) 2 := ⟨m_997, m_53, by decide +kernel⟩
theorem mv_X4_swap : fw_Vt yX4_swap := ⟨m_995, m_996⟩
theorem mt_X4_omit : fw_Mt yX4_omit cX4_omit 7 (some .int) 2 := ⟨m_1001, m_53, by decide +kernel⟩
theorem mv_X4_omit : fw_Vt yX4_omit := ⟨m_999, m_1000⟩
theorem mt_X4_off : fw_Mt yX4_off cX4_off 7 (some .int) 2 := ⟨m_1005, m_53, by decide +kernel⟩
theorem mv_X4_off : fw_Vt yX4_off := ⟨m_1003, m_1004⟩
theorem mt_X4_lowest : fw_Mt yX4_lowest cX4_lowest 11 (some .long) 3 := ⟨m_1018, m_53, by decide +kernel⟩
theorem mt_X4_byFails : fw_Mt yX4_byFails cX4_byFails 14 (some .long) 4 := ⟨m_1015, m_53, by decide +kernel⟩
theorem mv_X4_byFails : fw_Vt yX4_byFails := ⟨m_1014, m_44⟩
theorem mt_X4_luck : fw_Mt yX4_luck cX4_luck 4 (some .long) 3 := ⟨m_1009, m_53, by decide +kernel⟩
theorem mv_X4_luck : fw_Vt yX4_luck := ⟨m_1007, m_1008⟩
theorem mt_X4_mean : fw_Mt yX4_mean cX4_mean 4 (some .long) 3 := ⟨m_1023, m_53, by decide +kernel⟩
theorem mv_X4_mean : fw_Vt yX4_mean := ⟨m_1021, m_1022⟩
theorem mt_X4_see : fw_Mt yX4_see cX4_see 4 (some .int) 3 := ⟨m_1027, m_53, by decide +kernel⟩
theorem mv_X4_see : fw_Vt yX4_see := ⟨m_1025, m_1026⟩
theorem mt_X4_forget : fw_Mt yX4_forget cX4_forget 3 (some .int) 1 := ⟨m_1033, m_53, by decide +kernel⟩
theorem mv_X4_forget : fw_Vt yX4_forget := ⟨m_1031, m_1032⟩
theorem mt_X4_isAsSeen : fw_Mt yX4_isAsSeen cX4_isAsSeen 8 (some .boolean) 2 := ⟨m_1045, m_53, by decide +kernel⟩
theorem mv_X4_isAsSeen : fw_Vt yX4_isAsSeen := ⟨m_1044, m_46⟩
theorem mt_X4_numbersAt : fw_Mt yX4_numbersAt cX4_numbersAt 7 (some .int) 3 := ⟨m_1041, m_53, by decide +kernel⟩
theorem mv_X4_numbersAt : fw_Vt yX4_numbersAt := ⟨m_1040, m_45⟩
theorem mt_X4_kinds : fw_Mt yX4_kinds cX4_kinds 2 (some .int) 1 := ⟨m_1037, m_53, by decide +kernel⟩
theorem mv_X4_kinds : fw_Vt yX4_kinds := ⟨m_1035, m_1036⟩
theorem mt_X4_losses : fw_Mt yX4_losses cX4_losses 2 (some .int) 1 := ⟨m_1049, m_53, by decide +kernel⟩
theorem mv_X4_losses : fw_Vt yX4_losses := ⟨m_1047, m_1048⟩
theorem mt_X4_worstAt : fw_Mt yX4_worstAt cX4_worstAt 7 (some .int) 2 := ⟨m_1057, m_53, by decide +kernel⟩
theorem mv_X4_worstAt : fw_Vt yX4_worstAt := ⟨m_1056, m_47⟩
theorem mt_X4_ask : fw_Mt yX4_ask cX4_ask 8 (some .int) 2 := ⟨m_1053, m_53, by decide +kernel⟩
theorem mv_X4_ask : fw_Vt yX4_ask := ⟨m_1051, m_1052⟩
theorem mt_X4_drift : fw_Mt yX4_drift cX4_drift 6 (some .int) 3 := ⟨m_1061, m_53, by decide +kernel⟩
theorem mv_X4_drift : fw_Vt yX4_drift := ⟨m_1059, m_1060⟩
theorem mt_X4_keep : fw_Mt yX4_keep cX4_keep 3 (some .int) 1 := ⟨m_1066, m_53, by decide +kernel⟩
theorem mv_X4_keep : fw_Vt yX4_keep := ⟨m_1064, m_1065⟩
theorem mt_X4_back : fw_Mt yX4_back cX4_back 2 (some .int) 1 := ⟨m_1070, m_53, by decide +kernel⟩
theorem mv_X4_back : fw_Vt yX4_back := ⟨m_1068, m_1069⟩
theorem mt_X4_sheet : fw_Mt yX4_sheet cX4_sheet 5 (some .int) 3 := ⟨m_1074, m_53, by decide +kernel⟩
theorem mv_X4_sheet : fw_Vt yX4_sheet := ⟨m_1072, m_1073⟩
theorem mt_X4_lay : fw_Mt yX4_lay cX4_lay 4 (some .int) 3 := ⟨m_1079, m_53, by decide +kernel⟩
theorem mv_X4_lay : fw_Vt yX4_lay := ⟨m_1077, m_1078⟩
theorem mt_X4_read : fw_Mt yX4_read cX4_read 9 (some .int) 4 := ⟨m_1083, m_53, by decide +kernel⟩
theorem mv_X4_read : fw_Vt yX4_read := ⟨m_1081, m_1082⟩
theorem mt_X4_torn : fw_Mt yX4_torn cX4_torn 1 (some .int) 0 := ⟨m_1087, m_53, by decide +kernel⟩
theorem mv_X4_torn : fw_Vt yX4_torn := ⟨m_1085, m_1086⟩
theorem mt_X4_count : fw_Mt yX4_count cX4_count 5 (some .int) 1 := ⟨m_1091, m_53, by decide +kernel⟩
theorem mv_X4_count : fw_Vt yX4_count := ⟨m_1089, m_1090⟩
theorem mt_J6_bitCount_0f7a4 : fw_Mt yJ6_bitCount_0f7a4 cJ6_bitCount_0f7a4 1 (some .int) 1 := ⟨m_654, m_59, by decide +kernel⟩
theorem mt_J9_max_7cf53 : fw_Mt yJ9_max_7cf53 cJ9_max_7cf53 2 (some .int) 2 := ⟨m_428, m_58, by decide +kernel⟩
theorem mt_J9_min_7cf53 : fw_Mt yJ9_min_7cf53 cJ9_min_7cf53 2 (some .int) 2 := ⟨m_431, m_58, by decide +kernel⟩
theorem mt_J0_length_8abf5 : fw_Mt yJ0_length_8abf5 cJ0_length_8abf5 1 (some .int) 0 := ⟨m_308, m_54, by decide +kernel⟩
theorem mv_J0_length_8abf5 : fw_Vt yJ0_length_8abf5 := ⟨m_306, m_307⟩
theorem mt_J0_charAt_5068e : fw_Mt yJ0_charAt_5068e cJ0_charAt_5068e 2 (some .char) 1 := ⟨m_318, m_54, by decide +kernel⟩
theorem mv_J0_charAt_5068e : fw_Vt yJ0_charAt_5068e := ⟨m_316, m_317⟩
theorem mt_J0_coder_7d493 : fw_Mt yJ0_coder_7d493 cJ0_coder_7d493 1 (some .byte) 0 := ⟨m_312, m_54, by decide +kernel⟩
theorem mv_J0_coder_7d493 : fw_Vt yJ0_coder_7d493 := ⟨m_310, m_311⟩
theorem mt_J0_isLatin1_aae02 : fw_Mt yJ0_isLatin1_aae02 cJ0_isLatin1_aae02 1 (some .boolean) 0 := ⟨m_322, m_54, by decide +kernel⟩
theorem mv_J0_isLatin1_aae02 : fw_Vt yJ0_isLatin1_aae02 := ⟨m_320, m_321⟩
theorem mt_J0_checkIndex_df160 : fw_Mt yJ0_checkIndex_df160 cJ0_checkIndex_df160 2 none 2 := ⟨m_328, m_54, by decide +kernel⟩
theorem mt_J1_charAt_3b067 : fw_Mt yJ1_charAt_3b067 cJ1_charAt_3b067 2 (some .char) 2 := ⟨m_325, m_55, by decide +kernel⟩
theorem mt_J2_getChar_3b067 : fw_Mt yJ2_getChar_3b067 cJ2_getChar_3b067 2 (some .char) 2 := ⟨m_346, m_57, by decide +kernel⟩
theorem mt_J2_length_9d52b : fw_Mt yJ2_length_9d52b cJ2_length_9d52b 1 (some .int) 1 := ⟨m_342, m_57, by decide +kernel⟩
theorem mt_J2_charAt_3b067 : fw_Mt yJ2_charAt_3b067 cJ2_charAt_3b067 2 (some .char) 2 := ⟨m_336, m_57, by decide +kernel⟩
theorem mt_J2_checkIndex_2214a : fw_Mt yJ2_checkIndex_2214a cJ2_checkIndex_2214a 2 none 2 := ⟨m_339, m_57, by decide +kernel⟩
theorem mt_J3_checkIndex_8e157 : fw_Mt yJ3_checkIndex_8e157 cJ3_checkIndex_8e157 3 (some .int) 3 := ⟨m_333, m_56, by decide +kernel⟩
end
