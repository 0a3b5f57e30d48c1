section
-- ===== PART A: goes FIRST, ahead of the names: the tables' words, and 'selects' of the private methods out of them =====
/-- a private method of a class that the tables say can be made, by its rows of tables_1 -/
def lw_okq (q : MethodName × Nat) : Prop := (q.1.cls ≠ "java/lang/invoke/MethodHandle" ∧ q.1.cls ≠ "java/lang/invoke/VarHandle") ∧ Cond.instantiable q.1.cls q.2 ∈ tables_1 ∧ Cond.privateMethod q.1 ∈ tables_1 ∧ Cond.instanceMethod q.1 ∈ tables_1
theorem lw_p0 : lw_okq (⟨"WakingLayers", "finding", "(I)I"⟩, 11) := ⟨⟨by decide +kernel, by decide +kernel⟩, List.mem_of_getElem? (i := 21) (by decide +kernel), List.mem_of_getElem? (i := 425) (by decide +kernel), List.mem_of_getElem? (i := 426) (by decide +kernel)⟩
theorem lw_p1 : lw_okq (⟨"WakingLayers", "withoutFinding", "(I)I"⟩, 11) := ⟨⟨by decide +kernel, by decide +kernel⟩, List.mem_of_getElem? (i := 21) (by decide +kernel), List.mem_of_getElem? (i := 434) (by decide +kernel), List.mem_of_getElem? (i := 435) (by decide +kernel)⟩
theorem lw_p2 : lw_okq (⟨"WakingLayers$Tape", "endOfRun", "(CC)I"⟩, 6) := ⟨⟨by decide +kernel, by decide +kernel⟩, List.mem_of_getElem? (i := 52) (by decide +kernel), List.mem_of_getElem? (i := 513) (by decide +kernel), List.mem_of_getElem? (i := 514) (by decide +kernel)⟩
theorem lw_p3 : lw_okq (⟨"WakingLayers$Tape", "valueNumber", "()V"⟩, 6) := ⟨⟨by decide +kernel, by decide +kernel⟩, List.mem_of_getElem? (i := 52) (by decide +kernel), List.mem_of_getElem? (i := 517) (by decide +kernel), List.mem_of_getElem? (i := 518) (by decide +kernel)⟩
theorem lw_p4 : lw_okq (⟨"WakingLayers$Reader", "readTelling", "()V"⟩, 5) := ⟨⟨by decide +kernel, by decide +kernel⟩, List.mem_of_getElem? (i := 235) (by decide +kernel), List.mem_of_getElem? (i := 525) (by decide +kernel), List.mem_of_getElem? (i := 526) (by decide +kernel)⟩
theorem lw_p5 : lw_okq (⟨"WakingLayers$Tape", "matches", "(Ljava/lang/String;I)Z"⟩, 6) := ⟨⟨by decide +kernel, by decide +kernel⟩, List.mem_of_getElem? (i := 52) (by decide +kernel), List.mem_of_getElem? (i := 582) (by decide +kernel), List.mem_of_getElem? (i := 583) (by decide +kernel)⟩
theorem lw_p6 : lw_okq (⟨"WakingLayers$Reader", "readKind", "()V"⟩, 5) := ⟨⟨by decide +kernel, by decide +kernel⟩, List.mem_of_getElem? (i := 235) (by decide +kernel), List.mem_of_getElem? (i := 586) (by decide +kernel), List.mem_of_getElem? (i := 587) (by decide +kernel)⟩
theorem lw_p7 : lw_okq (⟨"WakingLayers$Reader", "takeFirstWord", "(II)V"⟩, 5) := ⟨⟨by decide +kernel, by decide +kernel⟩, List.mem_of_getElem? (i := 235) (by decide +kernel), List.mem_of_getElem? (i := 590) (by decide +kernel), List.mem_of_getElem? (i := 591) (by decide +kernel)⟩
theorem lw_p8 : lw_okq (⟨"WakingLayers$Reader", "refuse", "(I)V"⟩, 5) := ⟨⟨by decide +kernel, by decide +kernel⟩, List.mem_of_getElem? (i := 235) (by decide +kernel), List.mem_of_getElem? (i := 594) (by decide +kernel), List.mem_of_getElem? (i := 595) (by decide +kernel)⟩
theorem lw_p9 : lw_okq (⟨"WakingLayers$Reader", "takeNumber", "(I)I"⟩, 5) := ⟨⟨by decide +kernel, by decide +kernel⟩, List.mem_of_getElem? (i := 235) (by decide +kernel), List.mem_of_getElem? (i := 608) (by decide +kernel), List.mem_of_getElem? (i := 609) (by decide +kernel)⟩
theorem lw_p10 : lw_okq (⟨"WakingLayers$Reader", "takeSign", "(C)V"⟩, 5) := ⟨⟨by decide +kernel, by decide +kernel⟩, List.mem_of_getElem? (i := 235) (by decide +kernel), List.mem_of_getElem? (i := 620) (by decide +kernel), List.mem_of_getElem? (i := 621) (by decide +kernel)⟩
theorem lw_p11 : lw_okq (⟨"WakingLayers$Reader", "readThing", "()V"⟩, 5) := ⟨⟨by decide +kernel, by decide +kernel⟩, List.mem_of_getElem? (i := 235) (by decide +kernel), List.mem_of_getElem? (i := 632) (by decide +kernel), List.mem_of_getElem? (i := 633) (by decide +kernel)⟩
theorem lw_p12 : lw_okq (⟨"WakingLayers$Reader", "readLayer", "()V"⟩, 5) := ⟨⟨by decide +kernel, by decide +kernel⟩, List.mem_of_getElem? (i := 235) (by decide +kernel), List.mem_of_getElem? (i := 640) (by decide +kernel), List.mem_of_getElem? (i := 641) (by decide +kernel)⟩
theorem lw_p13 : lw_okq (⟨"WakingLayers$Reader", "takeWord", "(Ljava/lang/String;)I"⟩, 5) := ⟨⟨by decide +kernel, by decide +kernel⟩, List.mem_of_getElem? (i := 235) (by decide +kernel), List.mem_of_getElem? (i := 645) (by decide +kernel), List.mem_of_getElem? (i := 646) (by decide +kernel)⟩
theorem lw_p14 : lw_okq (⟨"WakingLayers$Reader", "readTest", "(LWakingLayers$Layer;)V"⟩, 5) := ⟨⟨by decide +kernel, by decide +kernel⟩, List.mem_of_getElem? (i := 235) (by decide +kernel), List.mem_of_getElem? (i := 653) (by decide +kernel), List.mem_of_getElem? (i := 654) (by decide +kernel)⟩
theorem lw_p15 : lw_okq (⟨"WakingLayers$Reader", "readNeedsAndBars", "(LWakingLayers$Layer;)V"⟩, 5) := ⟨⟨by decide +kernel, by decide +kernel⟩, List.mem_of_getElem? (i := 235) (by decide +kernel), List.mem_of_getElem? (i := 661) (by decide +kernel), List.mem_of_getElem? (i := 662) (by decide +kernel)⟩
def lw_privs_1 : List (MethodName × Nat) := [(⟨"WakingLayers", "finding", "(I)I"⟩, 11), (⟨"WakingLayers", "withoutFinding", "(I)I"⟩, 11), (⟨"WakingLayers$Tape", "endOfRun", "(CC)I"⟩, 6), (⟨"WakingLayers$Tape", "valueNumber", "()V"⟩, 6), (⟨"WakingLayers$Reader", "readTelling", "()V"⟩, 5), (⟨"WakingLayers$Tape", "matches", "(Ljava/lang/String;I)Z"⟩, 6), (⟨"WakingLayers$Reader", "readKind", "()V"⟩, 5), (⟨"WakingLayers$Reader", "takeFirstWord", "(II)V"⟩, 5), (⟨"WakingLayers$Reader", "refuse", "(I)V"⟩, 5), (⟨"WakingLayers$Reader", "takeNumber", "(I)I"⟩, 5), (⟨"WakingLayers$Reader", "takeSign", "(C)V"⟩, 5), (⟨"WakingLayers$Reader", "readThing", "()V"⟩, 5), (⟨"WakingLayers$Reader", "readLayer", "()V"⟩, 5), (⟨"WakingLayers$Reader", "takeWord", "(Ljava/lang/String;)I"⟩, 5), (⟨"WakingLayers$Reader", "readTest", "(LWakingLayers$Layer;)V"⟩, 5), (⟨"WakingLayers$Reader", "readNeedsAndBars", "(LWakingLayers$Layer;)V"⟩, 5)]
theorem lw_r1 : ∀ q ∈ lw_privs_1, lw_okq q := List.forall_mem_cons.mpr ⟨lw_p0, List.forall_mem_cons.mpr ⟨lw_p1, List.forall_mem_cons.mpr ⟨lw_p2, List.forall_mem_cons.mpr ⟨lw_p3, List.forall_mem_cons.mpr ⟨lw_p4, List.forall_mem_cons.mpr ⟨lw_p5, List.forall_mem_cons.mpr ⟨lw_p6, List.forall_mem_cons.mpr ⟨lw_p7, List.forall_mem_cons.mpr ⟨lw_p8, List.forall_mem_cons.mpr ⟨lw_p9, List.forall_mem_cons.mpr ⟨lw_p10, List.forall_mem_cons.mpr ⟨lw_p11, List.forall_mem_cons.mpr ⟨lw_p12, List.forall_mem_cons.mpr ⟨lw_p13, List.forall_mem_cons.mpr ⟨lw_p14, List.forall_mem_cons.mpr ⟨lw_p15, fun _ h => absurd h List.not_mem_nil⟩⟩⟩⟩⟩⟩⟩⟩⟩⟩⟩⟩⟩⟩⟩⟩
theorem lw_p16 : lw_okq (⟨"WakingLayers$Reader", "readBody", "()V"⟩, 5) := ⟨⟨by decide +kernel, by decide +kernel⟩, List.mem_of_getElem? (i := 235) (by decide +kernel), List.mem_of_getElem? (i := 667) (by decide +kernel), List.mem_of_getElem? (i := 668) (by decide +kernel)⟩
theorem lw_p17 : lw_okq (⟨"WakingLayers$Reader", "takeOwner", "()I"⟩, 5) := ⟨⟨by decide +kernel, by decide +kernel⟩, List.mem_of_getElem? (i := 235) (by decide +kernel), List.mem_of_getElem? (i := 671) (by decide +kernel), List.mem_of_getElem? (i := 672) (by decide +kernel)⟩
theorem lw_p18 : lw_okq (⟨"WakingLayers$Reader", "readAct", "(LWakingLayers$Body;)V"⟩, 5) := ⟨⟨by decide +kernel, by decide +kernel⟩, List.mem_of_getElem? (i := 235) (by decide +kernel), List.mem_of_getElem? (i := 681) (by decide +kernel), List.mem_of_getElem? (i := 682) (by decide +kernel)⟩
theorem lw_p19 : lw_okq (⟨"WakingLayers$Reader", "refuseUnwoken", "()V"⟩, 5) := ⟨⟨by decide +kernel, by decide +kernel⟩, List.mem_of_getElem? (i := 235) (by decide +kernel), List.mem_of_getElem? (i := 686) (by decide +kernel), List.mem_of_getElem? (i := 687) (by decide +kernel)⟩
theorem lw_p20 : lw_okq (⟨"WakingLayers$Circumstances", "awakeUnasked", "()I"⟩, 6) := ⟨⟨by decide +kernel, by decide +kernel⟩, List.mem_of_getElem? (i := 257) (by decide +kernel), List.mem_of_getElem? (i := 733) (by decide +kernel), List.mem_of_getElem? (i := 734) (by decide +kernel)⟩
theorem lw_p21 : lw_okq (⟨"WakingLayers$Rows", "gatherFitting", "(II)V"⟩, 5) := ⟨⟨by decide +kernel, by decide +kernel⟩, List.mem_of_getElem? (i := 282) (by decide +kernel), List.mem_of_getElem? (i := 818) (by decide +kernel), List.mem_of_getElem? (i := 819) (by decide +kernel)⟩
theorem lw_p22 : lw_okq (⟨"WakingLayers$Rows", "weight", "(II)I"⟩, 5) := ⟨⟨by decide +kernel, by decide +kernel⟩, List.mem_of_getElem? (i := 282) (by decide +kernel), List.mem_of_getElem? (i := 826) (by decide +kernel), List.mem_of_getElem? (i := 827) (by decide +kernel)⟩
theorem lw_p23 : lw_okq (⟨"WakingLayers$Rows", "takeHeaviest", "()I"⟩, 5) := ⟨⟨by decide +kernel, by decide +kernel⟩, List.mem_of_getElem? (i := 282) (by decide +kernel), List.mem_of_getElem? (i := 840) (by decide +kernel), List.mem_of_getElem? (i := 841) (by decide +kernel)⟩
theorem lw_p24 : lw_okq (⟨"WakingLayers$Rows", "addBodies", "([III)I"⟩, 5) := ⟨⟨by decide +kernel, by decide +kernel⟩, List.mem_of_getElem? (i := 282) (by decide +kernel), List.mem_of_getElem? (i := 844) (by decide +kernel), List.mem_of_getElem? (i := 845) (by decide +kernel)⟩
theorem lw_p25 : lw_okq (⟨"WakingLayers$Rows", "isEnded", "([II)Z"⟩, 5) := ⟨⟨by decide +kernel, by decide +kernel⟩, List.mem_of_getElem? (i := 282) (by decide +kernel), List.mem_of_getElem? (i := 848) (by decide +kernel), List.mem_of_getElem? (i := 849) (by decide +kernel)⟩
theorem lw_p26 : lw_okq (⟨"WakingLayers", "isCall", "(III)Z"⟩, 11) := ⟨⟨by decide +kernel, by decide +kernel⟩, List.mem_of_getElem? (i := 21) (by decide +kernel), List.mem_of_getElem? (i := 856) (by decide +kernel), List.mem_of_getElem? (i := 857) (by decide +kernel)⟩
theorem lw_p27 : lw_okq (⟨"WakingLayers$Runner", "callAt", "(IIII)I"⟩, 9) := ⟨⟨by decide +kernel, by decide +kernel⟩, List.mem_of_getElem? (i := 304) (by decide +kernel), List.mem_of_getElem? (i := 865) (by decide +kernel), List.mem_of_getElem? (i := 866) (by decide +kernel)⟩
theorem lw_p28 : lw_okq (⟨"WakingLayers$Runner", "runFrom", "(III)I"⟩, 9) := ⟨⟨by decide +kernel, by decide +kernel⟩, List.mem_of_getElem? (i := 304) (by decide +kernel), List.mem_of_getElem? (i := 871) (by decide +kernel), List.mem_of_getElem? (i := 872) (by decide +kernel)⟩
theorem lw_p29 : lw_okq (⟨"WakingLayers$Runner", "noteBegun", "(I)V"⟩, 9) := ⟨⟨by decide +kernel, by decide +kernel⟩, List.mem_of_getElem? (i := 304) (by decide +kernel), List.mem_of_getElem? (i := 875) (by decide +kernel), List.mem_of_getElem? (i := 876) (by decide +kernel)⟩
theorem lw_p30 : lw_okq (⟨"WakingLayers$Runner", "doActs", "(III)I"⟩, 9) := ⟨⟨by decide +kernel, by decide +kernel⟩, List.mem_of_getElem? (i := 304) (by decide +kernel), List.mem_of_getElem? (i := 880) (by decide +kernel), List.mem_of_getElem? (i := 881) (by decide +kernel)⟩
theorem lw_p31 : lw_okq (⟨"WakingLayers$Runner", "doAct", "(LWakingLayers$Body;IIII)I"⟩, 9) := ⟨⟨by decide +kernel, by decide +kernel⟩, List.mem_of_getElem? (i := 304) (by decide +kernel), List.mem_of_getElem? (i := 884) (by decide +kernel), List.mem_of_getElem? (i := 885) (by decide +kernel)⟩
def lw_privs_2 : List (MethodName × Nat) := [(⟨"WakingLayers$Reader", "readBody", "()V"⟩, 5), (⟨"WakingLayers$Reader", "takeOwner", "()I"⟩, 5), (⟨"WakingLayers$Reader", "readAct", "(LWakingLayers$Body;)V"⟩, 5), (⟨"WakingLayers$Reader", "refuseUnwoken", "()V"⟩, 5), (⟨"WakingLayers$Circumstances", "awakeUnasked", "()I"⟩, 6), (⟨"WakingLayers$Rows", "gatherFitting", "(II)V"⟩, 5), (⟨"WakingLayers$Rows", "weight", "(II)I"⟩, 5), (⟨"WakingLayers$Rows", "takeHeaviest", "()I"⟩, 5), (⟨"WakingLayers$Rows", "addBodies", "([III)I"⟩, 5), (⟨"WakingLayers$Rows", "isEnded", "([II)Z"⟩, 5), (⟨"WakingLayers", "isCall", "(III)Z"⟩, 11), (⟨"WakingLayers$Runner", "callAt", "(IIII)I"⟩, 9), (⟨"WakingLayers$Runner", "runFrom", "(III)I"⟩, 9), (⟨"WakingLayers$Runner", "noteBegun", "(I)V"⟩, 9), (⟨"WakingLayers$Runner", "doActs", "(III)I"⟩, 9), (⟨"WakingLayers$Runner", "doAct", "(LWakingLayers$Body;IIII)I"⟩, 9)]
theorem lw_r2 : ∀ q ∈ lw_privs_2, lw_okq q := List.forall_mem_cons.mpr ⟨lw_p16, List.forall_mem_cons.mpr ⟨lw_p17, List.forall_mem_cons.mpr ⟨lw_p18, List.forall_mem_cons.mpr ⟨lw_p19, List.forall_mem_cons.mpr ⟨lw_p20, List.forall_mem_cons.mpr ⟨lw_p21, List.forall_mem_cons.mpr ⟨lw_p22, List.forall_mem_cons.mpr ⟨lw_p23, List.forall_mem_cons.mpr ⟨lw_p24, List.forall_mem_cons.mpr ⟨lw_p25, List.forall_mem_cons.mpr ⟨lw_p26, List.forall_mem_cons.mpr ⟨lw_p27, List.forall_mem_cons.mpr ⟨lw_p28, List.forall_mem_cons.mpr ⟨lw_p29, List.forall_mem_cons.mpr ⟨lw_p30, List.forall_mem_cons.mpr ⟨lw_p31, fun _ h => absurd h List.not_mem_nil⟩⟩⟩⟩⟩⟩⟩⟩⟩⟩⟩⟩⟩⟩⟩⟩
theorem lw_p32 : lw_okq (⟨"WakingLayers$Runner", "wokenThing", "(II)I"⟩, 9) := ⟨⟨by decide +kernel, by decide +kernel⟩, List.mem_of_getElem? (i := 304) (by decide +kernel), List.mem_of_getElem? (i := 889) (by decide +kernel), List.mem_of_getElem? (i := 890) (by decide +kernel)⟩
theorem lw_p33 : lw_okq (⟨"WakingLayers$Runner", "runBehind", "(III)I"⟩, 9) := ⟨⟨by decide +kernel, by decide +kernel⟩, List.mem_of_getElem? (i := 304) (by decide +kernel), List.mem_of_getElem? (i := 895) (by decide +kernel), List.mem_of_getElem? (i := 896) (by decide +kernel)⟩
theorem lw_p34 : lw_okq (⟨"WakingLayers$SmallWorld", "factsOfWorld", "(II)[I"⟩, 5) := ⟨⟨by decide +kernel, by decide +kernel⟩, List.mem_of_getElem? (i := 339) (by decide +kernel), List.mem_of_getElem? (i := 926) (by decide +kernel), List.mem_of_getElem? (i := 927) (by decide +kernel)⟩
theorem lw_p35 : lw_okq (⟨"WakingLayers$Asker", "sizeOfSpanned", "(I)I"⟩, 4) := ⟨⟨by decide +kernel, by decide +kernel⟩, List.mem_of_getElem? (i := 361) (by decide +kernel), List.mem_of_getElem? (i := 989) (by decide +kernel), List.mem_of_getElem? (i := 990) (by decide +kernel)⟩
theorem lw_p36 : lw_okq (⟨"WakingLayers$Asker", "leave", "(I)V"⟩, 4) := ⟨⟨by decide +kernel, by decide +kernel⟩, List.mem_of_getElem? (i := 361) (by decide +kernel), List.mem_of_getElem? (i := 993) (by decide +kernel), List.mem_of_getElem? (i := 994) (by decide +kernel)⟩
theorem lw_p37 : lw_okq (⟨"WakingLayers$Asker", "lentSize", "(I)I"⟩, 4) := ⟨⟨by decide +kernel, by decide +kernel⟩, List.mem_of_getElem? (i := 361) (by decide +kernel), List.mem_of_getElem? (i := 997) (by decide +kernel), List.mem_of_getElem? (i := 998) (by decide +kernel)⟩
theorem lw_p38 : lw_okq (⟨"WakingLayers$Asker", "sizeOfOwned", "(I)I"⟩, 4) := ⟨⟨by decide +kernel, by decide +kernel⟩, List.mem_of_getElem? (i := 361) (by decide +kernel), List.mem_of_getElem? (i := 1002) (by decide +kernel), List.mem_of_getElem? (i := 1003) (by decide +kernel)⟩
theorem lw_p39 : lw_okq (⟨"WakingLayers$Asker", "sizeOfAsked", "(I)I"⟩, 4) := ⟨⟨by decide +kernel, by decide +kernel⟩, List.mem_of_getElem? (i := 361) (by decide +kernel), List.mem_of_getElem? (i := 1006) (by decide +kernel), List.mem_of_getElem? (i := 1007) (by decide +kernel)⟩
theorem lw_p40 : lw_okq (⟨"WakingLayers$Asker", "markOfAsked", "(I)I"⟩, 4) := ⟨⟨by decide +kernel, by decide +kernel⟩, List.mem_of_getElem? (i := 361) (by decide +kernel), List.mem_of_getElem? (i := 1014) (by decide +kernel), List.mem_of_getElem? (i := 1015) (by decide +kernel)⟩
theorem lw_p41 : lw_okq (⟨"WakingLayers$Asker", "lentMark", "(I)I"⟩, 4) := ⟨⟨by decide +kernel, by decide +kernel⟩, List.mem_of_getElem? (i := 361) (by decide +kernel), List.mem_of_getElem? (i := 1018) (by decide +kernel), List.mem_of_getElem? (i := 1019) (by decide +kernel)⟩
theorem lw_p42 : lw_okq (⟨"WakingLayers$Asker", "markOfEver", "(I)I"⟩, 4) := ⟨⟨by decide +kernel, by decide +kernel⟩, List.mem_of_getElem? (i := 361) (by decide +kernel), List.mem_of_getElem? (i := 1027) (by decide +kernel), List.mem_of_getElem? (i := 1028) (by decide +kernel)⟩
theorem lw_p43 : lw_okq (⟨"WakingLayers$Asker", "sizeOfNeeding", "(I)I"⟩, 4) := ⟨⟨by decide +kernel, by decide +kernel⟩, List.mem_of_getElem? (i := 361) (by decide +kernel), List.mem_of_getElem? (i := 1032) (by decide +kernel), List.mem_of_getElem? (i := 1033) (by decide +kernel)⟩
theorem lw_p44 : lw_okq (⟨"WakingLayersModel", "finding", "(I)I"⟩, 72) := ⟨⟨by decide +kernel, by decide +kernel⟩, List.mem_of_getElem? (i := 1070) (by decide +kernel), List.mem_of_getElem? (i := 1306) (by decide +kernel), List.mem_of_getElem? (i := 1307) (by decide +kernel)⟩
theorem lw_p45 : lw_okq (⟨"WakingLayersModel", "step", "()V"⟩, 72) := ⟨⟨by decide +kernel, by decide +kernel⟩, List.mem_of_getElem? (i := 1070) (by decide +kernel), List.mem_of_getElem? (i := 1334) (by decide +kernel), List.mem_of_getElem? (i := 1335) (by decide +kernel)⟩
theorem lw_p46 : lw_okq (⟨"WakingLayersModel", "byteAt", "(I)I"⟩, 72) := ⟨⟨by decide +kernel, by decide +kernel⟩, List.mem_of_getElem? (i := 1070) (by decide +kernel), List.mem_of_getElem? (i := 1338) (by decide +kernel), List.mem_of_getElem? (i := 1339) (by decide +kernel)⟩
theorem lw_p47 : lw_okq (⟨"WakingLayersModel", "word", "()J"⟩, 72) := ⟨⟨by decide +kernel, by decide +kernel⟩, List.mem_of_getElem? (i := 1070) (by decide +kernel), List.mem_of_getElem? (i := 1352) (by decide +kernel), List.mem_of_getElem? (i := 1353) (by decide +kernel)⟩
def lw_privs_3 : List (MethodName × Nat) := [(⟨"WakingLayers$Runner", "wokenThing", "(II)I"⟩, 9), (⟨"WakingLayers$Runner", "runBehind", "(III)I"⟩, 9), (⟨"WakingLayers$SmallWorld", "factsOfWorld", "(II)[I"⟩, 5), (⟨"WakingLayers$Asker", "sizeOfSpanned", "(I)I"⟩, 4), (⟨"WakingLayers$Asker", "leave", "(I)V"⟩, 4), (⟨"WakingLayers$Asker", "lentSize", "(I)I"⟩, 4), (⟨"WakingLayers$Asker", "sizeOfOwned", "(I)I"⟩, 4), (⟨"WakingLayers$Asker", "sizeOfAsked", "(I)I"⟩, 4), (⟨"WakingLayers$Asker", "markOfAsked", "(I)I"⟩, 4), (⟨"WakingLayers$Asker", "lentMark", "(I)I"⟩, 4), (⟨"WakingLayers$Asker", "markOfEver", "(I)I"⟩, 4), (⟨"WakingLayers$Asker", "sizeOfNeeding", "(I)I"⟩, 4), (⟨"WakingLayersModel", "finding", "(I)I"⟩, 72), (⟨"WakingLayersModel", "step", "()V"⟩, 72), (⟨"WakingLayersModel", "byteAt", "(I)I"⟩, 72), (⟨"WakingLayersModel", "word", "()J"⟩, 72)]
theorem lw_r3 : ∀ q ∈ lw_privs_3, lw_okq q := List.forall_mem_cons.mpr ⟨lw_p32, List.forall_mem_cons.mpr ⟨lw_p33, List.forall_mem_cons.mpr ⟨lw_p34, List.forall_mem_cons.mpr ⟨lw_p35, List.forall_mem_cons.mpr ⟨lw_p36, List.forall_mem_cons.mpr ⟨lw_p37, List.forall_mem_cons.mpr ⟨lw_p38, List.forall_mem_cons.mpr ⟨lw_p39, List.forall_mem_cons.mpr ⟨lw_p40, List.forall_mem_cons.mpr ⟨lw_p41, List.forall_mem_cons.mpr ⟨lw_p42, List.forall_mem_cons.mpr ⟨lw_p43, List.forall_mem_cons.mpr ⟨lw_p44, List.forall_mem_cons.mpr ⟨lw_p45, List.forall_mem_cons.mpr ⟨lw_p46, List.forall_mem_cons.mpr ⟨lw_p47, fun _ h => absurd h List.not_mem_nil⟩⟩⟩⟩⟩⟩⟩⟩⟩⟩⟩⟩⟩⟩⟩⟩
theorem lw_p48 : lw_okq (⟨"WakingLayersModel", "bad", "(I)V"⟩, 72) := ⟨⟨by decide +kernel, by decide +kernel⟩, List.mem_of_getElem? (i := 1070) (by decide +kernel), List.mem_of_getElem? (i := 1360) (by decide +kernel), List.mem_of_getElem? (i := 1361) (by decide +kernel)⟩
theorem lw_p49 : lw_okq (⟨"WakingLayersModel", "must", "(Z)V"⟩, 72) := ⟨⟨by decide +kernel, by decide +kernel⟩, List.mem_of_getElem? (i := 1070) (by decide +kernel), List.mem_of_getElem? (i := 1364) (by decide +kernel), List.mem_of_getElem? (i := 1365) (by decide +kernel)⟩
theorem lw_p50 : lw_okq (⟨"WakingLayersModel", "readKind", "()V"⟩, 72) := ⟨⟨by decide +kernel, by decide +kernel⟩, List.mem_of_getElem? (i := 1070) (by decide +kernel), List.mem_of_getElem? (i := 1368) (by decide +kernel), List.mem_of_getElem? (i := 1369) (by decide +kernel)⟩
theorem lw_p51 : lw_okq (⟨"WakingLayersModel", "numberTo", "(I)I"⟩, 72) := ⟨⟨by decide +kernel, by decide +kernel⟩, List.mem_of_getElem? (i := 1070) (by decide +kernel), List.mem_of_getElem? (i := 1373) (by decide +kernel), List.mem_of_getElem? (i := 1374) (by decide +kernel)⟩
theorem lw_p52 : lw_okq (⟨"WakingLayersModel", "readThing", "()V"⟩, 72) := ⟨⟨by decide +kernel, by decide +kernel⟩, List.mem_of_getElem? (i := 1070) (by decide +kernel), List.mem_of_getElem? (i := 1377) (by decide +kernel), List.mem_of_getElem? (i := 1378) (by decide +kernel)⟩
theorem lw_p53 : lw_okq (⟨"WakingLayersModel", "readLayer", "()V"⟩, 72) := ⟨⟨by decide +kernel, by decide +kernel⟩, List.mem_of_getElem? (i := 1070) (by decide +kernel), List.mem_of_getElem? (i := 1381) (by decide +kernel), List.mem_of_getElem? (i := 1382) (by decide +kernel)⟩
theorem lw_p54 : lw_okq (⟨"WakingLayersModel", "sortOfWord", "()I"⟩, 72) := ⟨⟨by decide +kernel, by decide +kernel⟩, List.mem_of_getElem? (i := 1070) (by decide +kernel), List.mem_of_getElem? (i := 1385) (by decide +kernel), List.mem_of_getElem? (i := 1386) (by decide +kernel)⟩
theorem lw_p55 : lw_okq (⟨"WakingLayersModel", "is", "(I)Z"⟩, 72) := ⟨⟨by decide +kernel, by decide +kernel⟩, List.mem_of_getElem? (i := 1070) (by decide +kernel), List.mem_of_getElem? (i := 1392) (by decide +kernel), List.mem_of_getElem? (i := 1393) (by decide +kernel)⟩
theorem lw_p56 : lw_okq (⟨"WakingLayersModel", "readBody", "()V"⟩, 72) := ⟨⟨by decide +kernel, by decide +kernel⟩, List.mem_of_getElem? (i := 1070) (by decide +kernel), List.mem_of_getElem? (i := 1398) (by decide +kernel), List.mem_of_getElem? (i := 1399) (by decide +kernel)⟩
theorem lw_p57 : lw_okq (⟨"WakingLayersModel", "wayOfWord", "()I"⟩, 72) := ⟨⟨by decide +kernel, by decide +kernel⟩, List.mem_of_getElem? (i := 1070) (by decide +kernel), List.mem_of_getElem? (i := 1403) (by decide +kernel), List.mem_of_getElem? (i := 1404) (by decide +kernel)⟩
theorem lw_p58 : lw_okq (⟨"WakingLayersModel", "actOfWord", "(I)I"⟩, 72) := ⟨⟨by decide +kernel, by decide +kernel⟩, List.mem_of_getElem? (i := 1070) (by decide +kernel), List.mem_of_getElem? (i := 1411) (by decide +kernel), List.mem_of_getElem? (i := 1412) (by decide +kernel)⟩
theorem lw_p59 : lw_okq (⟨"WakingLayersModel", "readAct", "(I)V"⟩, 72) := ⟨⟨by decide +kernel, by decide +kernel⟩, List.mem_of_getElem? (i := 1070) (by decide +kernel), List.mem_of_getElem? (i := 1422) (by decide +kernel), List.mem_of_getElem? (i := 1423) (by decide +kernel)⟩
theorem lw_p60 : lw_okq (⟨"WakingLayersModel", "isLayer", "(I)Z"⟩, 72) := ⟨⟨by decide +kernel, by decide +kernel⟩, List.mem_of_getElem? (i := 1070) (by decide +kernel), List.mem_of_getElem? (i := 1435) (by decide +kernel), List.mem_of_getElem? (i := 1436) (by decide +kernel)⟩
theorem lw_p61 : lw_okq (⟨"WakingLayersModel", "isAwake", "(I)Z"⟩, 72) := ⟨⟨by decide +kernel, by decide +kernel⟩, List.mem_of_getElem? (i := 1070) (by decide +kernel), List.mem_of_getElem? (i := 1440) (by decide +kernel), List.mem_of_getElem? (i := 1441) (by decide +kernel)⟩
theorem lw_p62 : lw_okq (⟨"WakingLayersModel", "openOf", "(I)I"⟩, 72) := ⟨⟨by decide +kernel, by decide +kernel⟩, List.mem_of_getElem? (i := 1070) (by decide +kernel), List.mem_of_getElem? (i := 1444) (by decide +kernel), List.mem_of_getElem? (i := 1445) (by decide +kernel)⟩
theorem lw_p63 : lw_okq (⟨"WakingLayersModel", "find", "()V"⟩, 72) := ⟨⟨by decide +kernel, by decide +kernel⟩, List.mem_of_getElem? (i := 1070) (by decide +kernel), List.mem_of_getElem? (i := 1463) (by decide +kernel), List.mem_of_getElem? (i := 1464) (by decide +kernel)⟩
def lw_privs_4 : List (MethodName × Nat) := [(⟨"WakingLayersModel", "bad", "(I)V"⟩, 72), (⟨"WakingLayersModel", "must", "(Z)V"⟩, 72), (⟨"WakingLayersModel", "readKind", "()V"⟩, 72), (⟨"WakingLayersModel", "numberTo", "(I)I"⟩, 72), (⟨"WakingLayersModel", "readThing", "()V"⟩, 72), (⟨"WakingLayersModel", "readLayer", "()V"⟩, 72), (⟨"WakingLayersModel", "sortOfWord", "()I"⟩, 72), (⟨"WakingLayersModel", "is", "(I)Z"⟩, 72), (⟨"WakingLayersModel", "readBody", "()V"⟩, 72), (⟨"WakingLayersModel", "wayOfWord", "()I"⟩, 72), (⟨"WakingLayersModel", "actOfWord", "(I)I"⟩, 72), (⟨"WakingLayersModel", "readAct", "(I)V"⟩, 72), (⟨"WakingLayersModel", "isLayer", "(I)Z"⟩, 72), (⟨"WakingLayersModel", "isAwake", "(I)Z"⟩, 72), (⟨"WakingLayersModel", "openOf", "(I)I"⟩, 72), (⟨"WakingLayersModel", "find", "()V"⟩, 72)]
theorem lw_r4 : ∀ q ∈ lw_privs_4, lw_okq q := List.forall_mem_cons.mpr ⟨lw_p48, List.forall_mem_cons.mpr ⟨lw_p49, List.forall_mem_cons.mpr ⟨lw_p50, List.forall_mem_cons.mpr ⟨lw_p51, List.forall_mem_cons.mpr ⟨lw_p52, List.forall_mem_cons.mpr ⟨lw_p53, List.forall_mem_cons.mpr ⟨lw_p54, List.forall_mem_cons.mpr ⟨lw_p55, List.forall_mem_cons.mpr ⟨lw_p56, List.forall_mem_cons.mpr ⟨lw_p57, List.forall_mem_cons.mpr ⟨lw_p58, List.forall_mem_cons.mpr ⟨lw_p59, List.forall_mem_cons.mpr ⟨lw_p60, List.forall_mem_cons.mpr ⟨lw_p61, List.forall_mem_cons.mpr ⟨lw_p62, List.forall_mem_cons.mpr ⟨lw_p63, fun _ h => absurd h List.not_mem_nil⟩⟩⟩⟩⟩⟩⟩⟩⟩⟩⟩⟩⟩⟩⟩⟩
theorem lw_p64 : lw_okq (⟨"WakingLayersModel", "holdsTest", "(I)Z"⟩, 72) := ⟨⟨by decide +kernel, by decide +kernel⟩, List.mem_of_getElem? (i := 1070) (by decide +kernel), List.mem_of_getElem? (i := 1467) (by decide +kernel), List.mem_of_getElem? (i := 1468) (by decide +kernel)⟩
theorem lw_p65 : lw_okq (⟨"WakingLayersModel", "hasNeeds", "(I)Z"⟩, 72) := ⟨⟨by decide +kernel, by decide +kernel⟩, List.mem_of_getElem? (i := 1070) (by decide +kernel), List.mem_of_getElem? (i := 1471) (by decide +kernel), List.mem_of_getElem? (i := 1472) (by decide +kernel)⟩
theorem lw_p66 : lw_okq (⟨"WakingLayersModel", "lose", "()V"⟩, 72) := ⟨⟨by decide +kernel, by decide +kernel⟩, List.mem_of_getElem? (i := 1070) (by decide +kernel), List.mem_of_getElem? (i := 1475) (by decide +kernel), List.mem_of_getElem? (i := 1476) (by decide +kernel)⟩
theorem lw_p67 : lw_okq (⟨"WakingLayersModel", "isThing", "(I)Z"⟩, 72) := ⟨⟨by decide +kernel, by decide +kernel⟩, List.mem_of_getElem? (i := 1070) (by decide +kernel), List.mem_of_getElem? (i := 1483) (by decide +kernel), List.mem_of_getElem? (i := 1484) (by decide +kernel)⟩
theorem lw_p68 : lw_okq (⟨"WakingLayersModel", "close", "(I)V"⟩, 72) := ⟨⟨by decide +kernel, by decide +kernel⟩, List.mem_of_getElem? (i := 1070) (by decide +kernel), List.mem_of_getElem? (i := 1491) (by decide +kernel), List.mem_of_getElem? (i := 1492) (by decide +kernel)⟩
theorem lw_p69 : lw_okq (⟨"WakingLayersModel", "layRow", "(III)V"⟩, 72) := ⟨⟨by decide +kernel, by decide +kernel⟩, List.mem_of_getElem? (i := 1070) (by decide +kernel), List.mem_of_getElem? (i := 1500) (by decide +kernel), List.mem_of_getElem? (i := 1501) (by decide +kernel)⟩
theorem lw_p70 : lw_okq (⟨"WakingLayersModel", "isAwakeFor", "(II)Z"⟩, 72) := ⟨⟨by decide +kernel, by decide +kernel⟩, List.mem_of_getElem? (i := 1070) (by decide +kernel), List.mem_of_getElem? (i := 1504) (by decide +kernel), List.mem_of_getElem? (i := 1505) (by decide +kernel)⟩
theorem lw_p71 : lw_okq (⟨"WakingLayersModel", "latestOf", "(II)I"⟩, 72) := ⟨⟨by decide +kernel, by decide +kernel⟩, List.mem_of_getElem? (i := 1070) (by decide +kernel), List.mem_of_getElem? (i := 1508) (by decide +kernel), List.mem_of_getElem? (i := 1509) (by decide +kernel)⟩
theorem lw_p72 : lw_okq (⟨"WakingLayersModel", "isAhead", "(III)Z"⟩, 72) := ⟨⟨by decide +kernel, by decide +kernel⟩, List.mem_of_getElem? (i := 1070) (by decide +kernel), List.mem_of_getElem? (i := 1512) (by decide +kernel), List.mem_of_getElem? (i := 1513) (by decide +kernel)⟩
theorem lw_p73 : lw_okq (⟨"WakingLayersModel", "lay", "(IIII)Z"⟩, 72) := ⟨⟨by decide +kernel, by decide +kernel⟩, List.mem_of_getElem? (i := 1070) (by decide +kernel), List.mem_of_getElem? (i := 1516) (by decide +kernel), List.mem_of_getElem? (i := 1517) (by decide +kernel)⟩
theorem lw_p74 : lw_okq (⟨"WakingLayersModel", "isNumber", "(I)Z"⟩, 72) := ⟨⟨by decide +kernel, by decide +kernel⟩, List.mem_of_getElem? (i := 1070) (by decide +kernel), List.mem_of_getElem? (i := 1524) (by decide +kernel), List.mem_of_getElem? (i := 1525) (by decide +kernel)⟩
theorem lw_p75 : lw_okq (⟨"WakingLayersModel", "outermost", "(III)I"⟩, 72) := ⟨⟨by decide +kernel, by decide +kernel⟩, List.mem_of_getElem? (i := 1070) (by decide +kernel), List.mem_of_getElem? (i := 1529) (by decide +kernel), List.mem_of_getElem? (i := 1530) (by decide +kernel)⟩
theorem lw_p76 : lw_okq (⟨"WakingLayersModel", "comeBack", "()Z"⟩, 72) := ⟨⟨by decide +kernel, by decide +kernel⟩, List.mem_of_getElem? (i := 1070) (by decide +kernel), List.mem_of_getElem? (i := 1533) (by decide +kernel), List.mem_of_getElem? (i := 1534) (by decide +kernel)⟩
theorem lw_p77 : lw_okq (⟨"WakingLayersModel", "topBody", "()I"⟩, 72) := ⟨⟨by decide +kernel, by decide +kernel⟩, List.mem_of_getElem? (i := 1070) (by decide +kernel), List.mem_of_getElem? (i := 1537) (by decide +kernel), List.mem_of_getElem? (i := 1538) (by decide +kernel)⟩
theorem lw_p78 : lw_okq (⟨"WakingLayersModel", "over", "(Z)V"⟩, 72) := ⟨⟨by decide +kernel, by decide +kernel⟩, List.mem_of_getElem? (i := 1070) (by decide +kernel), List.mem_of_getElem? (i := 1541) (by decide +kernel), List.mem_of_getElem? (i := 1542) (by decide +kernel)⟩
theorem lw_p79 : lw_okq (⟨"WakingLayersModel", "begin", "()Z"⟩, 72) := ⟨⟨by decide +kernel, by decide +kernel⟩, List.mem_of_getElem? (i := 1070) (by decide +kernel), List.mem_of_getElem? (i := 1545) (by decide +kernel), List.mem_of_getElem? (i := 1546) (by decide +kernel)⟩
def lw_privs_5 : List (MethodName × Nat) := [(⟨"WakingLayersModel", "holdsTest", "(I)Z"⟩, 72), (⟨"WakingLayersModel", "hasNeeds", "(I)Z"⟩, 72), (⟨"WakingLayersModel", "lose", "()V"⟩, 72), (⟨"WakingLayersModel", "isThing", "(I)Z"⟩, 72), (⟨"WakingLayersModel", "close", "(I)V"⟩, 72), (⟨"WakingLayersModel", "layRow", "(III)V"⟩, 72), (⟨"WakingLayersModel", "isAwakeFor", "(II)Z"⟩, 72), (⟨"WakingLayersModel", "latestOf", "(II)I"⟩, 72), (⟨"WakingLayersModel", "isAhead", "(III)Z"⟩, 72), (⟨"WakingLayersModel", "lay", "(IIII)Z"⟩, 72), (⟨"WakingLayersModel", "isNumber", "(I)Z"⟩, 72), (⟨"WakingLayersModel", "outermost", "(III)I"⟩, 72), (⟨"WakingLayersModel", "comeBack", "()Z"⟩, 72), (⟨"WakingLayersModel", "topBody", "()I"⟩, 72), (⟨"WakingLayersModel", "over", "(Z)V"⟩, 72), (⟨"WakingLayersModel", "begin", "()Z"⟩, 72)]
theorem lw_r5 : ∀ q ∈ lw_privs_5, lw_okq q := List.forall_mem_cons.mpr ⟨lw_p64, List.forall_mem_cons.mpr ⟨lw_p65, List.forall_mem_cons.mpr ⟨lw_p66, List.forall_mem_cons.mpr ⟨lw_p67, List.forall_mem_cons.mpr ⟨lw_p68, List.forall_mem_cons.mpr ⟨lw_p69, List.forall_mem_cons.mpr ⟨lw_p70, List.forall_mem_cons.mpr ⟨lw_p71, List.forall_mem_cons.mpr ⟨lw_p72, List.forall_mem_cons.mpr ⟨lw_p73, List.forall_mem_cons.mpr ⟨lw_p74, List.forall_mem_cons.mpr ⟨lw_p75, List.forall_mem_cons.mpr ⟨lw_p76, List.forall_mem_cons.mpr ⟨lw_p77, List.forall_mem_cons.mpr ⟨lw_p78, List.forall_mem_cons.mpr ⟨lw_p79, fun _ h => absurd h List.not_mem_nil⟩⟩⟩⟩⟩⟩⟩⟩⟩⟩⟩⟩⟩⟩⟩⟩
theorem lw_p80 : lw_okq (⟨"WakingLayersModel", "goNext", "()V"⟩, 72) := ⟨⟨by decide +kernel, by decide +kernel⟩, List.mem_of_getElem? (i := 1070) (by decide +kernel), List.mem_of_getElem? (i := 1549) (by decide +kernel), List.mem_of_getElem? (i := 1550) (by decide +kernel)⟩
theorem lw_p81 : lw_okq (⟨"WakingLayersModel", "doActs", "()V"⟩, 72) := ⟨⟨by decide +kernel, by decide +kernel⟩, List.mem_of_getElem? (i := 1070) (by decide +kernel), List.mem_of_getElem? (i := 1553) (by decide +kernel), List.mem_of_getElem? (i := 1554) (by decide +kernel)⟩
theorem lw_p82 : lw_okq (⟨"WakingLayersModel", "keep", "()V"⟩, 72) := ⟨⟨by decide +kernel, by decide +kernel⟩, List.mem_of_getElem? (i := 1070) (by decide +kernel), List.mem_of_getElem? (i := 1568) (by decide +kernel), List.mem_of_getElem? (i := 1569) (by decide +kernel)⟩
theorem lw_p83 : lw_okq (⟨"WakingLayersModel", "makeWorld", "(II)V"⟩, 72) := ⟨⟨by decide +kernel, by decide +kernel⟩, List.mem_of_getElem? (i := 1070) (by decide +kernel), List.mem_of_getElem? (i := 1575) (by decide +kernel), List.mem_of_getElem? (i := 1576) (by decide +kernel)⟩
theorem lw_p84 : lw_okq (⟨"WakingLayersModel", "bringBack", "()V"⟩, 72) := ⟨⟨by decide +kernel, by decide +kernel⟩, List.mem_of_getElem? (i := 1070) (by decide +kernel), List.mem_of_getElem? (i := 1579) (by decide +kernel), List.mem_of_getElem? (i := 1580) (by decide +kernel)⟩
theorem lw_p85 : lw_okq (⟨"WakingLayersModel", "kindOf", "(I)I"⟩, 72) := ⟨⟨by decide +kernel, by decide +kernel⟩, List.mem_of_getElem? (i := 1070) (by decide +kernel), List.mem_of_getElem? (i := 1591) (by decide +kernel), List.mem_of_getElem? (i := 1592) (by decide +kernel)⟩
theorem lw_p86 : lw_okq (⟨"WakingLayersModel", "markOf", "(II)I"⟩, 72) := ⟨⟨by decide +kernel, by decide +kernel⟩, List.mem_of_getElem? (i := 1070) (by decide +kernel), List.mem_of_getElem? (i := 1606) (by decide +kernel), List.mem_of_getElem? (i := 1607) (by decide +kernel)⟩
theorem lw_p87 : lw_okq (⟨"WakingLayersModel", "leaves", "(I)V"⟩, 72) := ⟨⟨by decide +kernel, by decide +kernel⟩, List.mem_of_getElem? (i := 1070) (by decide +kernel), List.mem_of_getElem? (i := 1610) (by decide +kernel), List.mem_of_getElem? (i := 1611) (by decide +kernel)⟩
theorem lw_p88 : lw_okq (⟨"WakingLayersModel", "sizeOf", "(II)I"⟩, 72) := ⟨⟨by decide +kernel, by decide +kernel⟩, List.mem_of_getElem? (i := 1070) (by decide +kernel), List.mem_of_getElem? (i := 1614) (by decide +kernel), List.mem_of_getElem? (i := 1615) (by decide +kernel)⟩
theorem lw_p89 : lw_okq (⟨"WakingLayersModel", "askedSize", "(II)I"⟩, 72) := ⟨⟨by decide +kernel, by decide +kernel⟩, List.mem_of_getElem? (i := 1070) (by decide +kernel), List.mem_of_getElem? (i := 1618) (by decide +kernel), List.mem_of_getElem? (i := 1619) (by decide +kernel)⟩
def lw_privs_6 : List (MethodName × Nat) := [(⟨"WakingLayersModel", "goNext", "()V"⟩, 72), (⟨"WakingLayersModel", "doActs", "()V"⟩, 72), (⟨"WakingLayersModel", "keep", "()V"⟩, 72), (⟨"WakingLayersModel", "makeWorld", "(II)V"⟩, 72), (⟨"WakingLayersModel", "bringBack", "()V"⟩, 72), (⟨"WakingLayersModel", "kindOf", "(I)I"⟩, 72), (⟨"WakingLayersModel", "markOf", "(II)I"⟩, 72), (⟨"WakingLayersModel", "leaves", "(I)V"⟩, 72), (⟨"WakingLayersModel", "sizeOf", "(II)I"⟩, 72), (⟨"WakingLayersModel", "askedSize", "(II)I"⟩, 72)]
theorem lw_r6 : ∀ q ∈ lw_privs_6, lw_okq q := List.forall_mem_cons.mpr ⟨lw_p80, List.forall_mem_cons.mpr ⟨lw_p81, List.forall_mem_cons.mpr ⟨lw_p82, List.forall_mem_cons.mpr ⟨lw_p83, List.forall_mem_cons.mpr ⟨lw_p84, List.forall_mem_cons.mpr ⟨lw_p85, List.forall_mem_cons.mpr ⟨lw_p86, List.forall_mem_cons.mpr ⟨lw_p87, List.forall_mem_cons.mpr ⟨lw_p88, List.forall_mem_cons.mpr ⟨lw_p89, fun _ h => absurd h List.not_mem_nil⟩⟩⟩⟩⟩⟩⟩⟩⟩⟩
def lw_privs : List (MethodName × Nat) := lw_privs_1 ++ (lw_privs_2 ++ (lw_privs_3 ++ (lw_privs_4 ++ (lw_privs_5 ++ (lw_privs_6)))))
def lw_tbl : List Cond := k2_sels lw_privs ++ tables_1
theorem lw_privs_ok : ∀ q ∈ lw_privs, lw_okq q := by
  show ∀ q ∈ lw_privs_1 ++ (lw_privs_2 ++ (lw_privs_3 ++ (lw_privs_4 ++ (lw_privs_5 ++ (lw_privs_6))))), lw_okq q
  exact List.forall_mem_append.mpr ⟨lw_r1, List.forall_mem_append.mpr ⟨lw_r2, List.forall_mem_append.mpr ⟨lw_r3, List.forall_mem_append.mpr ⟨lw_r4, List.forall_mem_append.mpr ⟨lw_r5, lw_r6⟩⟩⟩⟩⟩
end
section
def RX0 : String := "WakingLayers$Asker"
def TX0 : u_T := fun k => match k with
  | 0 => ("WakingLayers$Asker", "program", "LWakingLayers$Program;", true)
  | 1 => ("WakingLayers$Asker", "circumstances", "LWakingLayers$Circumstances;", true)
  | 2 => ("WakingLayers$Asker", "traced", "[I", true)
  | _ => ("WakingLayers$Asker", "tracedCount", "I", false)
def tyX0 : Nat → FieldType := fun k => match k with
  | 0 => .object "WakingLayers$Program"
  | 1 => .object "WakingLayers$Circumstances"
  | 2 => .array .int
  | _ => .int
theorem nmX0 : ∀ a, a < 4 → ∀ b, b < 4 → a ≠ b → (TX0 a).2.1 ≠ (TX0 b).2.1 := by decide +kernel
theorem tyX0_ok : ∀ k, k < 4 → parseFieldDescriptor (TX0 k).2.2.1 = some (tyX0 k) := by decide +kernel
abbrev cX0_init : ByteArray := prog_2_method_1_code
def yX0_init : MethodName := ⟨RX0, "<init>", "(LWakingLayers$Program;LWakingLayers$Circumstances;)V"⟩
abbrev cX0_isKind : ByteArray := prog_2_method_2_code
def yX0_isKind : MethodName := ⟨RX0, "isKind", "(I)Z"⟩
abbrev cX0_isAsk : ByteArray := prog_2_method_3_code
def yX0_isAsk : MethodName := ⟨RX0, "isAsk", "(I)Z"⟩
abbrev cX0_kindOf : ByteArray := prog_2_method_4_code
def yX0_kindOf : MethodName := ⟨RX0, "kindOf", "(LWakingLayers$Layer;)I"⟩
abbrev cX0_isOne : ByteArray := prog_2_method_5_code
def yX0_isOne : MethodName := ⟨RX0, "isOne", "(II)Z"⟩
abbrev cX0_tracedAt : ByteArray := prog_2_method_6_code
def yX0_tracedAt : MethodName := ⟨RX0, "tracedAt", "(I)I"⟩
abbrev cX0_clearTrace : ByteArray := prog_2_method_7_code
def yX0_clearTrace : MethodName := ⟨RX0, "clearTrace", "()V"⟩
abbrev cX0_sizeOf : ByteArray := prog_2_method_8_code
def yX0_sizeOf : MethodName := ⟨RX0, "sizeOf", "(I)I"⟩
abbrev cX0_markOf : ByteArray := prog_2_method_9_code
def yX0_markOf : MethodName := ⟨RX0, "markOf", "(I)I"⟩
abbrev cX0_lentSize : ByteArray := prog_2_method_10_code
def yX0_lentSize : MethodName := ⟨RX0, "lentSize", "(I)I"⟩
abbrev cX0_sizeOfSpanned : ByteArray := prog_2_method_11_code
def yX0_sizeOfSpanned : MethodName := ⟨RX0, "sizeOfSpanned", "(I)I"⟩
abbrev cX0_sizeOfOwned : ByteArray := prog_2_method_12_code
def yX0_sizeOfOwned : MethodName := ⟨RX0, "sizeOfOwned", "(I)I"⟩
abbrev cX0_sizeOfAsked : ByteArray := prog_2_method_13_code
def yX0_sizeOfAsked : MethodName := ⟨RX0, "sizeOfAsked", "(I)I"⟩
abbrev cX0_sizeOfNeeding : ByteArray := prog_2_method_14_code
def yX0_sizeOfNeeding : MethodName := ⟨RX0, "sizeOfNeeding", "(I)I"⟩
abbrev cX0_lentMark : ByteArray := prog_2_method_15_code
def yX0_lentMark : MethodName := ⟨RX0, "lentMark", "(I)I"⟩
abbrev cX0_markOfAsked : ByteArray := prog_2_method_16_code
def yX0_markOfAsked : MethodName := ⟨RX0, "markOfAsked", "(I)I"⟩
abbrev cX0_markOfEver : ByteArray := prog_2_method_17_code
def yX0_markOfEver : MethodName := ⟨RX0, "markOfEver", "(I)I"⟩
abbrev cX0_leave : ByteArray := prog_2_method_18_code
def yX0_leave : MethodName := ⟨RX0, "leave", "(I)V"⟩
def RX1 : String := "WakingLayers$Body"
def TX1 : u_T := fun k => match k with
  | 0 => ("WakingLayers$Body", "acts", "[I", true)
  | 1 => ("WakingLayers$Body", "firstNumbers", "[I", true)
  | 2 => ("WakingLayers$Body", "secondNumbers", "[I", true)
  | 3 => ("WakingLayers$Body", "actCount", "I", false)
  | 4 => ("WakingLayers$Body", "layer", "I", false)
  | 5 => ("WakingLayers$Body", "way", "I", false)
  | 6 => ("WakingLayers$Body", "kind", "I", false)
  | _ => ("WakingLayers$Body", "routine", "I", false)
def tyX1 : Nat → FieldType := fun k => match k with
  | 0 => .array .int
  | 1 => .array .int
  | 2 => .array .int
  | 3 => .int
  | 4 => .int
  | 5 => .int
  | 6 => .int
  | _ => .int
theorem nmX1 : ∀ a, a < 8 → ∀ b, b < 8 → a ≠ b → (TX1 a).2.1 ≠ (TX1 b).2.1 := by decide +kernel
theorem tyX1_ok : ∀ k, k < 8 → parseFieldDescriptor (TX1 k).2.2.1 = some (tyX1 k) := by decide +kernel
abbrev cX1_init : ByteArray := prog_3_method_1_code
def yX1_init : MethodName := ⟨RX1, "<init>", "()V"⟩
abbrev cX1_begin : ByteArray := prog_3_method_2_code
def yX1_begin : MethodName := ⟨RX1, "begin", "(IIII)V"⟩
abbrev cX1_addAct : ByteArray := prog_3_method_3_code
def yX1_addAct : MethodName := ⟨RX1, "addAct", "(III)V"⟩
abbrev cX1_isFor : ByteArray := prog_3_method_4_code
def yX1_isFor : MethodName := ⟨RX1, "isFor", "(II)Z"⟩
def RX2 : String := "WakingLayers$Circumstances"
def TX2 : u_T := fun k => match k with
  | 0 => ("WakingLayers$Circumstances", "program", "LWakingLayers$Program;", true)
  | 1 => ("WakingLayers$Circumstances", "told", "[I", true)
  | 2 => ("WakingLayers$Circumstances", "wokenLayers", "[I", true)
  | 3 => ("WakingLayers$Circumstances", "wokenThings", "[I", true)
  | 4 => ("WakingLayers$Circumstances", "open", "I", false)
  | _ => ("WakingLayers$Circumstances", "found", "I", false)
def tyX2 : Nat → FieldType := fun k => match k with
  | 0 => .object "WakingLayers$Program"
  | 1 => .array .int
  | 2 => .array .int
  | 3 => .array .int
  | 4 => .int
  | _ => .int
theorem nmX2 : ∀ a, a < 6 → ∀ b, b < 6 → a ≠ b → (TX2 a).2.1 ≠ (TX2 b).2.1 := by decide +kernel
theorem tyX2_ok : ∀ k, k < 6 → parseFieldDescriptor (TX2 k).2.2.1 = some (tyX2 k) := by decide +kernel
abbrev cX2_init : ByteArray := prog_4_method_1_code
def yX2_init : MethodName := ⟨RX2, "<init>", "(LWakingLayers$Program;)V"⟩
abbrev cX2_isFactValue : ByteArray := prog_4_method_2_code
def yX2_isFactValue : MethodName := ⟨RX2, "isFactValue", "(I)Z"⟩
abbrev cX2_tell : ByteArray := prog_4_method_3_code
def yX2_tell : MethodName := ⟨RX2, "tell", "(II)I"⟩
abbrev cX2_openCount : ByteArray := prog_4_method_4_code
def yX2_openCount : MethodName := ⟨RX2, "openCount", "()I"⟩
abbrev cX2_openOf : ByteArray := prog_4_method_5_code
def yX2_openOf : MethodName := ⟨RX2, "openOf", "(I)I"⟩
abbrev cX2_openWaking : ByteArray := prog_4_method_6_code
def yX2_openWaking : MethodName := ⟨RX2, "openWaking", "(II)Z"⟩
abbrev cX2_closeLatest : ByteArray := prog_4_method_7_code
def yX2_closeLatest : MethodName := ⟨RX2, "closeLatest", "(I)Z"⟩
abbrev cX2_closeDownTo : ByteArray := prog_4_method_8_code
def yX2_closeDownTo : MethodName := ⟨RX2, "closeDownTo", "(I)V"⟩
abbrev cX2_latestOpen : ByteArray := prog_4_method_9_code
def yX2_latestOpen : MethodName := ⟨RX2, "latestOpen", "(II)I"⟩
abbrev cX2_isFound : ByteArray := prog_4_method_10_code
def yX2_isFound : MethodName := ⟨RX2, "isFound", "(I)Z"⟩
abbrev cX2_foundSet : ByteArray := prog_4_method_11_code
def yX2_foundSet : MethodName := ⟨RX2, "foundSet", "()I"⟩
abbrev cX2_setFound : ByteArray := prog_4_method_12_code
def yX2_setFound : MethodName := ⟨RX2, "setFound", "(I)V"⟩
abbrev cX2_awakeSet : ByteArray := prog_4_method_13_code
def yX2_awakeSet : MethodName := ⟨RX2, "awakeSet", "()I"⟩
abbrev cX2_isAwake : ByteArray := prog_4_method_14_code
def yX2_isAwake : MethodName := ⟨RX2, "isAwake", "(I)Z"⟩
abbrev cX2_awakeUnasked : ByteArray := prog_4_method_15_code
def yX2_awakeUnasked : MethodName := ⟨RX2, "awakeUnasked", "()I"⟩
abbrev cX2_takePoint : ByteArray := prog_4_method_16_code
def yX2_takePoint : MethodName := ⟨RX2, "takePoint", "()I"⟩
abbrev cX2_foundAtPoint : ByteArray := prog_4_method_17_code
def yX2_foundAtPoint : MethodName := ⟨RX2, "foundAtPoint", "([I)I"⟩
abbrev cX2_settled : ByteArray := prog_4_method_18_code
def yX2_settled : MethodName := ⟨RX2, "settled", "(I)I"⟩
def RX3 : String := "WakingLayers$Layer"
def TX3 : u_T := fun k => match k with
  | 0 => ("WakingLayers$Layer", "sort", "I", false)
  | 1 => ("WakingLayers$Layer", "rank", "I", false)
  | 2 => ("WakingLayers$Layer", "needs", "I", false)
  | 3 => ("WakingLayers$Layer", "bars", "I", false)
  | 4 => ("WakingLayers$Layer", "tested", "Z", false)
  | 5 => ("WakingLayers$Layer", "testFact", "I", false)
  | 6 => ("WakingLayers$Layer", "testSign", "C", false)
  | _ => ("WakingLayers$Layer", "testBound", "I", false)
def tyX3 : Nat → FieldType := fun k => match k with
  | 0 => .int
  | 1 => .int
  | 2 => .int
  | 3 => .int
  | 4 => .boolean
  | 5 => .int
  | 6 => .char
  | _ => .int
theorem nmX3 : ∀ a, a < 8 → ∀ b, b < 8 → a ≠ b → (TX3 a).2.1 ≠ (TX3 b).2.1 := by decide +kernel
theorem tyX3_ok : ∀ k, k < 8 → parseFieldDescriptor (TX3 k).2.2.1 = some (tyX3 k) := by decide +kernel
abbrev cX3_init : ByteArray := prog_5_method_1_code
def yX3_init : MethodName := ⟨RX3, "<init>", "()V"⟩
abbrev cX3_begin : ByteArray := prog_5_method_2_code
def yX3_begin : MethodName := ⟨RX3, "begin", "(II)V"⟩
abbrev cX3_beginTest : ByteArray := prog_5_method_3_code
def yX3_beginTest : MethodName := ⟨RX3, "beginTest", "(ICI)V"⟩
abbrev cX3_isWoken : ByteArray := prog_5_method_4_code
def yX3_isWoken : MethodName := ⟨RX3, "isWoken", "()Z"⟩
abbrev cX3_testHolds : ByteArray := prog_5_method_5_code
def yX3_testHolds : MethodName := ⟨RX3, "testHolds", "([I)Z"⟩
def RX4 : String := "WakingLayers$Program"
def TX4 : u_T := fun k => match k with
  | 0 => ("WakingLayers$Program", "kindUnder", "[I", true)
  | 1 => ("WakingLayers$Program", "thingKind", "[I", true)
  | 2 => ("WakingLayers$Program", "thingValue", "[I", true)
  | 3 => ("WakingLayers$Program", "layers", "[LWakingLayers$Layer;", true)
  | 4 => ("WakingLayers$Program", "bodies", "[LWakingLayers$Body;", true)
  | 5 => ("WakingLayers$Program", "kindCount", "I", false)
  | 6 => ("WakingLayers$Program", "thingCount", "I", false)
  | 7 => ("WakingLayers$Program", "layerCount", "I", false)
  | 8 => ("WakingLayers$Program", "bodyCount", "I", false)
  | 9 => ("WakingLayers$Program", "keptKinds", "I", false)
  | 10 => ("WakingLayers$Program", "keptThings", "I", false)
  | 11 => ("WakingLayers$Program", "keptLayers", "I", false)
  | _ => ("WakingLayers$Program", "keptBodies", "I", false)
def tyX4 : Nat → FieldType := fun k => match k with
  | 0 => .array .int
  | 1 => .array .int
  | 2 => .array .int
  | 3 => .array (.object "WakingLayers$Layer")
  | 4 => .array (.object "WakingLayers$Body")
  | 5 => .int
  | 6 => .int
  | 7 => .int
  | 8 => .int
  | 9 => .int
  | 10 => .int
  | 11 => .int
  | _ => .int
theorem nmX4 : ∀ a, a < 13 → ∀ b, b < 13 → a ≠ b → (TX4 a).2.1 ≠ (TX4 b).2.1 := by decide +kernel
theorem tyX4_ok : ∀ k, k < 13 → parseFieldDescriptor (TX4 k).2.2.1 = some (tyX4 k) := by decide +kernel
abbrev cX4_init : ByteArray := prog_6_method_1_code
def yX4_init : MethodName := ⟨RX4, "<init>", "()V"⟩
abbrev cX4_isThing : ByteArray := prog_6_method_2_code
def yX4_isThing : MethodName := ⟨RX4, "isThing", "(I)Z"⟩
abbrev cX4_isLayer : ByteArray := prog_6_method_3_code
def yX4_isLayer : MethodName := ⟨RX4, "isLayer", "(I)Z"⟩
abbrev cX4_addKind : ByteArray := prog_6_method_4_code
def yX4_addKind : MethodName := ⟨RX4, "addKind", "(I)V"⟩
abbrev cX4_addThing : ByteArray := prog_6_method_5_code
def yX4_addThing : MethodName := ⟨RX4, "addThing", "(II)V"⟩
abbrev cX4_keepCounts : ByteArray := prog_6_method_6_code
def yX4_keepCounts : MethodName := ⟨RX4, "keepCounts", "()V"⟩
abbrev cX4_restoreCounts : ByteArray := prog_6_method_7_code
def yX4_restoreCounts : MethodName := ⟨RX4, "restoreCounts", "()V"⟩
abbrev cX4_bodiesOf : ByteArray := prog_6_method_8_code
def yX4_bodiesOf : MethodName := ⟨RX4, "bodiesOf", "(I)I"⟩
def RX5 : String := "WakingLayers$Reader"
def TX5 : u_T := fun k => match k with
  | 0 => ("WakingLayers$Reader", "tape", "LWakingLayers$Tape;", true)
  | 1 => ("WakingLayers$Reader", "program", "LWakingLayers$Program;", true)
  | 2 => ("WakingLayers$Reader", "faulty", "Z", false)
  | 3 => ("WakingLayers$Reader", "faultPlace", "I", false)
  | _ => ("WakingLayers$Reader", "faultNumber", "I", false)
def tyX5 : Nat → FieldType := fun k => match k with
  | 0 => .object "WakingLayers$Tape"
  | 1 => .object "WakingLayers$Program"
  | 2 => .boolean
  | 3 => .int
  | _ => .int
theorem nmX5 : ∀ a, a < 5 → ∀ b, b < 5 → a ≠ b → (TX5 a).2.1 ≠ (TX5 b).2.1 := by decide +kernel
theorem tyX5_ok : ∀ k, k < 5 → parseFieldDescriptor (TX5 k).2.2.1 = some (tyX5 k) := by decide +kernel
abbrev cX5_init : ByteArray := prog_7_method_1_code
def yX5_init : MethodName := ⟨RX5, "<init>", "(LWakingLayers$Tape;LWakingLayers$Program;)V"⟩
abbrev cX5_latestFault : ByteArray := prog_7_method_2_code
def yX5_latestFault : MethodName := ⟨RX5, "latestFault", "()I"⟩
abbrev cX5_readTape : ByteArray := prog_7_method_3_code
def yX5_readTape : MethodName := ⟨RX5, "readTape", "()I"⟩
abbrev cX5_readTelling : ByteArray := prog_7_method_4_code
def yX5_readTelling : MethodName := ⟨RX5, "readTelling", "()V"⟩
abbrev cX5_readKind : ByteArray := prog_7_method_5_code
def yX5_readKind : MethodName := ⟨RX5, "readKind", "()V"⟩
abbrev cX5_readThing : ByteArray := prog_7_method_6_code
def yX5_readThing : MethodName := ⟨RX5, "readThing", "()V"⟩
abbrev cX5_readLayer : ByteArray := prog_7_method_7_code
def yX5_readLayer : MethodName := ⟨RX5, "readLayer", "()V"⟩
abbrev cX5_readTest : ByteArray := prog_7_method_8_code
def yX5_readTest : MethodName := ⟨RX5, "readTest", "(LWakingLayers$Layer;)V"⟩
abbrev cX5_readNeedsAndBars : ByteArray := prog_7_method_9_code
def yX5_readNeedsAndBars : MethodName := ⟨RX5, "readNeedsAndBars", "(LWakingLayers$Layer;)V"⟩
abbrev cX5_readBody : ByteArray := prog_7_method_10_code
def yX5_readBody : MethodName := ⟨RX5, "readBody", "()V"⟩
abbrev cX5_readAct : ByteArray := prog_7_method_11_code
def yX5_readAct : MethodName := ⟨RX5, "readAct", "(LWakingLayers$Body;)V"⟩
abbrev cX5_takeFirstWord : ByteArray := prog_7_method_12_code
def yX5_takeFirstWord : MethodName := ⟨RX5, "takeFirstWord", "(II)V"⟩
abbrev cX5_takeOwner : ByteArray := prog_7_method_13_code
def yX5_takeOwner : MethodName := ⟨RX5, "takeOwner", "()I"⟩
abbrev cX5_refuseUnwoken : ByteArray := prog_7_method_14_code
def yX5_refuseUnwoken : MethodName := ⟨RX5, "refuseUnwoken", "()V"⟩
abbrev cX5_takeNumber : ByteArray := prog_7_method_15_code
def yX5_takeNumber : MethodName := ⟨RX5, "takeNumber", "(I)I"⟩
abbrev cX5_takeWord : ByteArray := prog_7_method_16_code
def yX5_takeWord : MethodName := ⟨RX5, "takeWord", "(Ljava/lang/String;)I"⟩
abbrev cX5_takeSign : ByteArray := prog_7_method_17_code
def yX5_takeSign : MethodName := ⟨RX5, "takeSign", "(C)V"⟩
abbrev cX5_refuse : ByteArray := prog_7_method_18_code
def yX5_refuse : MethodName := ⟨RX5, "refuse", "(I)V"⟩
def RX6 : String := "WakingLayers$Rows"
def TX6 : u_T := fun k => match k with
  | 0 => ("WakingLayers$Rows", "program", "LWakingLayers$Program;", true)
  | 1 => ("WakingLayers$Rows", "circumstances", "LWakingLayers$Circumstances;", true)
  | 2 => ("WakingLayers$Rows", "weights", "[I", true)
  | 3 => ("WakingLayers$Rows", "fitting", "[I", true)
  | _ => ("WakingLayers$Rows", "fittingCount", "I", false)
def tyX6 : Nat → FieldType := fun k => match k with
  | 0 => .object "WakingLayers$Program"
  | 1 => .object "WakingLayers$Circumstances"
  | 2 => .array .int
  | 3 => .array .int
  | _ => .int
theorem nmX6 : ∀ a, a < 5 → ∀ b, b < 5 → a ≠ b → (TX6 a).2.1 ≠ (TX6 b).2.1 := by decide +kernel
theorem tyX6_ok : ∀ k, k < 5 → parseFieldDescriptor (TX6 k).2.2.1 = some (tyX6 k) := by decide +kernel
abbrev cX6_init : ByteArray := prog_8_method_1_code
def yX6_init : MethodName := ⟨RX6, "<init>", "(LWakingLayers$Program;LWakingLayers$Circumstances;)V"⟩
abbrev cX6_fill : ByteArray := prog_8_method_2_code
def yX6_fill : MethodName := ⟨RX6, "fill", "([III)I"⟩
abbrev cX6_weight : ByteArray := prog_8_method_3_code
def yX6_weight : MethodName := ⟨RX6, "weight", "(II)I"⟩
abbrev cX6_takeHeaviest : ByteArray := prog_8_method_4_code
def yX6_takeHeaviest : MethodName := ⟨RX6, "takeHeaviest", "()I"⟩
abbrev cX6_gatherFitting : ByteArray := prog_8_method_5_code
def yX6_gatherFitting : MethodName := ⟨RX6, "gatherFitting", "(II)V"⟩
abbrev cX6_addBodies : ByteArray := prog_8_method_6_code
def yX6_addBodies : MethodName := ⟨RX6, "addBodies", "([III)I"⟩
abbrev cX6_isEnded : ByteArray := prog_8_method_7_code
def yX6_isEnded : MethodName := ⟨RX6, "isEnded", "([II)Z"⟩
def RX7 : String := "WakingLayers$Runner"
def TX7 : u_T := fun k => match k with
  | 0 => ("WakingLayers$Runner", "program", "LWakingLayers$Program;", true)
  | 1 => ("WakingLayers$Runner", "circumstances", "LWakingLayers$Circumstances;", true)
  | 2 => ("WakingLayers$Runner", "rows", "LWakingLayers$Rows;", true)
  | 3 => ("WakingLayers$Runner", "rowAt", "[[I", true)
  | 4 => ("WakingLayers$Runner", "rowLengthAt", "[I", true)
  | 5 => ("WakingLayers$Runner", "thingAt", "[I", true)
  | 6 => ("WakingLayers$Runner", "begun", "[I", true)
  | 7 => ("WakingLayers$Runner", "begunCount", "I", false)
  | _ => ("WakingLayers$Runner", "spent", "Z", false)
def tyX7 : Nat → FieldType := fun k => match k with
  | 0 => .object "WakingLayers$Program"
  | 1 => .object "WakingLayers$Circumstances"
  | 2 => .object "WakingLayers$Rows"
  | 3 => .array (.array .int)
  | 4 => .array .int
  | 5 => .array .int
  | 6 => .array .int
  | 7 => .int
  | _ => .boolean
theorem nmX7 : ∀ a, a < 9 → ∀ b, b < 9 → a ≠ b → (TX7 a).2.1 ≠ (TX7 b).2.1 := by decide +kernel
theorem tyX7_ok : ∀ k, k < 9 → parseFieldDescriptor (TX7 k).2.2.1 = some (tyX7 k) := by decide +kernel
abbrev cX7_init : ByteArray := prog_9_method_1_code
def yX7_init : MethodName := ⟨RX7, "<init>", "(LWakingLayers$Program;LWakingLayers$Circumstances;LWakingLayers$Rows;)V"⟩
abbrev cX7_begunCount : ByteArray := prog_9_method_2_code
def yX7_begunCount : MethodName := ⟨RX7, "begunCount", "()I"⟩
abbrev cX7_begunAt : ByteArray := prog_9_method_3_code
def yX7_begunAt : MethodName := ⟨RX7, "begunAt", "(I)I"⟩
abbrev cX7_callOutermost : ByteArray := prog_9_method_4_code
def yX7_callOutermost : MethodName := ⟨RX7, "callOutermost", "(III)I"⟩
abbrev cX7_callAt : ByteArray := prog_9_method_5_code
def yX7_callAt : MethodName := ⟨RX7, "callAt", "(IIII)I"⟩
abbrev cX7_runFrom : ByteArray := prog_9_method_6_code
def yX7_runFrom : MethodName := ⟨RX7, "runFrom", "(III)I"⟩
abbrev cX7_runBehind : ByteArray := prog_9_method_7_code
def yX7_runBehind : MethodName := ⟨RX7, "runBehind", "(III)I"⟩
abbrev cX7_noteBegun : ByteArray := prog_9_method_8_code
def yX7_noteBegun : MethodName := ⟨RX7, "noteBegun", "(I)V"⟩
abbrev cX7_doActs : ByteArray := prog_9_method_9_code
def yX7_doActs : MethodName := ⟨RX7, "doActs", "(III)I"⟩
abbrev cX7_doAct : ByteArray := prog_9_method_10_code
def yX7_doAct : MethodName := ⟨RX7, "doAct", "(LWakingLayers$Body;IIII)I"⟩
abbrev cX7_wokenThing : ByteArray := prog_9_method_11_code
def yX7_wokenThing : MethodName := ⟨RX7, "wokenThing", "(II)I"⟩
def RX8 : String := "WakingLayers$Sheets"
def TX8 : u_T := fun k => match k with
  | 0 => ("WakingLayers$Sheets", "laid", "[Z", true)
  | 1 => ("WakingLayers$Sheets", "lanes", "[I", true)
  | 2 => ("WakingLayers$Sheets", "lengths", "[I", true)
  | _ => ("WakingLayers$Sheets", "items", "[[I", true)
def tyX8 : Nat → FieldType := fun k => match k with
  | 0 => .array .boolean
  | 1 => .array .int
  | 2 => .array .int
  | _ => .array (.array .int)
theorem nmX8 : ∀ a, a < 4 → ∀ b, b < 4 → a ≠ b → (TX8 a).2.1 ≠ (TX8 b).2.1 := by decide +kernel
theorem tyX8_ok : ∀ k, k < 4 → parseFieldDescriptor (TX8 k).2.2.1 = some (tyX8 k) := by decide +kernel
abbrev cX8_init : ByteArray := prog_10_method_1_code
def yX8_init : MethodName := ⟨RX8, "<init>", "()V"⟩
abbrev cX8_isSheet : ByteArray := prog_10_method_2_code
def yX8_isSheet : MethodName := ⟨RX8, "isSheet", "(I)Z"⟩
abbrev cX8_isLane : ByteArray := prog_10_method_3_code
def yX8_isLane : MethodName := ⟨RX8, "isLane", "(I)Z"⟩
abbrev cX8_isMissing : ByteArray := prog_10_method_4_code
def yX8_isMissing : MethodName := ⟨RX8, "isMissing", "(I)Z"⟩
abbrev cX8_haveOneLane : ByteArray := prog_10_method_5_code
def yX8_haveOneLane : MethodName := ⟨RX8, "haveOneLane", "(II)Z"⟩
abbrev cX8_hasPlaces : ByteArray := prog_10_method_6_code
def yX8_hasPlaces : MethodName := ⟨RX8, "hasPlaces", "(III)Z"⟩
abbrev cX8_lay : ByteArray := prog_10_method_7_code
def yX8_lay : MethodName := ⟨RX8, "lay", "(III)V"⟩
abbrev cX8_put : ByteArray := prog_10_method_8_code
def yX8_put : MethodName := ⟨RX8, "put", "(III)I"⟩
abbrev cX8_item : ByteArray := prog_10_method_9_code
def yX8_item : MethodName := ⟨RX8, "item", "(II)I"⟩
abbrev cX8_move : ByteArray := prog_10_method_10_code
def yX8_move : MethodName := ⟨RX8, "move", "(IIIII)V"⟩
abbrev cX8_lose : ByteArray := prog_10_method_11_code
def yX8_lose : MethodName := ⟨RX8, "lose", "(I)I"⟩
abbrev cX8_laidCount : ByteArray := prog_10_method_12_code
def yX8_laidCount : MethodName := ⟨RX8, "laidCount", "()I"⟩
def RX9 : String := "WakingLayers$SmallWorld"
def TX9 : u_T := fun k => match k with
  | 0 => ("WakingLayers$SmallWorld", "program", "LWakingLayers$Program;", true)
  | 1 => ("WakingLayers$SmallWorld", "circumstances", "LWakingLayers$Circumstances;", true)
  | 2 => ("WakingLayers$SmallWorld", "runner", "LWakingLayers$Runner;", true)
  | 3 => ("WakingLayers$SmallWorld", "facts", "[I", true)
  | _ => ("WakingLayers$SmallWorld", "gathered", "[Z", true)
def tyX9 : Nat → FieldType := fun k => match k with
  | 0 => .object "WakingLayers$Program"
  | 1 => .object "WakingLayers$Circumstances"
  | 2 => .object "WakingLayers$Runner"
  | 3 => .array .int
  | _ => .array .boolean
theorem nmX9 : ∀ a, a < 5 → ∀ b, b < 5 → a ≠ b → (TX9 a).2.1 ≠ (TX9 b).2.1 := by decide +kernel
theorem tyX9_ok : ∀ k, k < 5 → parseFieldDescriptor (TX9 k).2.2.1 = some (tyX9 k) := by decide +kernel
abbrev cX9_init : ByteArray := prog_11_method_1_code
def yX9_init : MethodName := ⟨RX9, "<init>", "(LWakingLayers$Program;LWakingLayers$Circumstances;LWakingLayers$Runner;)V"⟩
abbrev cX9_isGreatest : ByteArray := prog_11_method_2_code
def yX9_isGreatest : MethodName := ⟨RX9, "isGreatest", "(I)Z"⟩
abbrev cX9_gather : ByteArray := prog_11_method_3_code
def yX9_gather : MethodName := ⟨RX9, "gather", "(I)I"⟩
abbrev cX9_factsOfWorld : ByteArray := prog_11_method_4_code
def yX9_factsOfWorld : MethodName := ⟨RX9, "factsOfWorld", "(II)[I"⟩
abbrev cX9_gatheredAt : ByteArray := prog_11_method_5_code
def yX9_gatheredAt : MethodName := ⟨RX9, "gatheredAt", "(I)I"⟩
abbrev cX9_changesNothing : ByteArray := prog_11_method_6_code
def yX9_changesNothing : MethodName := ⟨RX9, "changesNothing", "(IIII)Z"⟩
def RX10 : String := "WakingLayers$Tape"
def TX10 : u_T := fun k => match k with
  | 0 => ("WakingLayers$Tape", "bytes", "[I", true)
  | 1 => ("WakingLayers$Tape", "length", "I", false)
  | 2 => ("WakingLayers$Tape", "sort", "I", false)
  | 3 => ("WakingLayers$Tape", "start", "I", false)
  | 4 => ("WakingLayers$Tape", "end", "I", false)
  | _ => ("WakingLayers$Tape", "value", "I", false)
def tyX10 : Nat → FieldType := fun k => match k with
  | 0 => .array .int
  | 1 => .int
  | 2 => .int
  | 3 => .int
  | 4 => .int
  | _ => .int
theorem nmX10 : ∀ a, a < 6 → ∀ b, b < 6 → a ≠ b → (TX10 a).2.1 ≠ (TX10 b).2.1 := by decide +kernel
theorem tyX10_ok : ∀ k, k < 6 → parseFieldDescriptor (TX10 k).2.2.1 = some (tyX10 k) := by decide +kernel
abbrev cX10_init : ByteArray := prog_12_method_1_code
def yX10_init : MethodName := ⟨RX10, "<init>", "()V"⟩
abbrev cX10_length : ByteArray := prog_12_method_2_code
def yX10_length : MethodName := ⟨RX10, "length", "()I"⟩
abbrev cX10_hasRoom : ByteArray := prog_12_method_3_code
def yX10_hasRoom : MethodName := ⟨RX10, "hasRoom", "(I)Z"⟩
abbrev cX10_append : ByteArray := prog_12_method_4_code
def yX10_append : MethodName := ⟨RX10, "append", "(JI)I"⟩
abbrev cX10_clear : ByteArray := prog_12_method_5_code
def yX10_clear : MethodName := ⟨RX10, "clear", "()V"⟩
abbrev cX10_firstToken : ByteArray := prog_12_method_6_code
def yX10_firstToken : MethodName := ⟨RX10, "firstToken", "()V"⟩
abbrev cX10_nextToken : ByteArray := prog_12_method_7_code
def yX10_nextToken : MethodName := ⟨RX10, "nextToken", "()V"⟩
abbrev cX10_sortOf : ByteArray := prog_12_method_8_code
def yX10_sortOf : MethodName := ⟨RX10, "sortOf", "(I)I"⟩
abbrev cX10_endOfRun : ByteArray := prog_12_method_9_code
def yX10_endOfRun : MethodName := ⟨RX10, "endOfRun", "(CC)I"⟩
abbrev cX10_valueNumber : ByteArray := prog_12_method_10_code
def yX10_valueNumber : MethodName := ⟨RX10, "valueNumber", "()V"⟩
abbrev cX10_tokenStart : ByteArray := prog_12_method_11_code
def yX10_tokenStart : MethodName := ⟨RX10, "tokenStart", "()I"⟩
abbrev cX10_atEnd : ByteArray := prog_12_method_12_code
def yX10_atEnd : MethodName := ⟨RX10, "atEnd", "()Z"⟩
abbrev cX10_atNumber : ByteArray := prog_12_method_13_code
def yX10_atNumber : MethodName := ⟨RX10, "atNumber", "()Z"⟩
abbrev cX10_number : ByteArray := prog_12_method_14_code
def yX10_number : MethodName := ⟨RX10, "number", "()I"⟩
abbrev cX10_atSign : ByteArray := prog_12_method_15_code
def yX10_atSign : MethodName := ⟨RX10, "atSign", "(C)Z"⟩
abbrev cX10_atName : ByteArray := prog_12_method_16_code
def yX10_atName : MethodName := ⟨RX10, "atName", "(Ljava/lang/String;)Z"⟩
abbrev cX10_nameAmong : ByteArray := prog_12_method_17_code
def yX10_nameAmong : MethodName := ⟨RX10, "nameAmong", "(Ljava/lang/String;)I"⟩
abbrev cX10_matches : ByteArray := prog_12_method_18_code
def yX10_matches : MethodName := ⟨RX10, "matches", "(Ljava/lang/String;I)Z"⟩
def RX11 : String := "WakingLayers"
def TX11 : u_T := fun k => match k with
  | 0 => ("WakingLayers", "sheets", "LWakingLayers$Sheets;", true)
  | 1 => ("WakingLayers", "tape", "LWakingLayers$Tape;", true)
  | 2 => ("WakingLayers", "program", "LWakingLayers$Program;", true)
  | 3 => ("WakingLayers", "reader", "LWakingLayers$Reader;", true)
  | 4 => ("WakingLayers", "circumstances", "LWakingLayers$Circumstances;", true)
  | 5 => ("WakingLayers", "rows", "LWakingLayers$Rows;", true)
  | 6 => ("WakingLayers", "shownRow", "[I", true)
  | 7 => ("WakingLayers", "runner", "LWakingLayers$Runner;", true)
  | 8 => ("WakingLayers", "smallWorld", "LWakingLayers$SmallWorld;", true)
  | 9 => ("WakingLayers", "asker", "LWakingLayers$Asker;", true)
  | _ => ("WakingLayers", "latestFinding", "I", false)
def tyX11 : Nat → FieldType := fun k => match k with
  | 0 => .object "WakingLayers$Sheets"
  | 1 => .object "WakingLayers$Tape"
  | 2 => .object "WakingLayers$Program"
  | 3 => .object "WakingLayers$Reader"
  | 4 => .object "WakingLayers$Circumstances"
  | 5 => .object "WakingLayers$Rows"
  | 6 => .array .int
  | 7 => .object "WakingLayers$Runner"
  | 8 => .object "WakingLayers$SmallWorld"
  | 9 => .object "WakingLayers$Asker"
  | _ => .int
theorem nmX11 : ∀ a, a < 11 → ∀ b, b < 11 → a ≠ b → (TX11 a).2.1 ≠ (TX11 b).2.1 := by decide +kernel
theorem tyX11_ok : ∀ k, k < 11 → parseFieldDescriptor (TX11 k).2.2.1 = some (tyX11 k) := by decide +kernel
abbrev cX11_init : ByteArray := prog_1_method_1_code
def yX11_init : MethodName := ⟨RX11, "<init>", "()V"⟩
abbrev cX11_sheet : ByteArray := prog_1_method_2_code
def yX11_sheet : MethodName := ⟨RX11, "sheet", "(III)I"⟩
abbrev cX11_set : ByteArray := prog_1_method_3_code
def yX11_set : MethodName := ⟨RX11, "set", "(III)I"⟩
abbrev cX11_copy : ByteArray := prog_1_method_4_code
def yX11_copy : MethodName := ⟨RX11, "copy", "(IIIII)I"⟩
abbrev cX11_drop : ByteArray := prog_1_method_5_code
def yX11_drop : MethodName := ⟨RX11, "drop", "(I)I"⟩
abbrev cX11_feed : ByteArray := prog_1_method_6_code
def yX11_feed : MethodName := ⟨RX11, "feed", "(JI)I"⟩
abbrev cX11_read : ByteArray := prog_1_method_7_code
def yX11_read : MethodName := ⟨RX11, "read", "()I"⟩
abbrev cX11_fault : ByteArray := prog_1_method_8_code
def yX11_fault : MethodName := ⟨RX11, "fault", "()I"⟩
abbrev cX11_layer : ByteArray := prog_1_method_9_code
def yX11_layer : MethodName := ⟨RX11, "layer", "(II)I"⟩
abbrev cX11_fact : ByteArray := prog_1_method_10_code
def yX11_fact : MethodName := ⟨RX11, "fact", "(II)I"⟩
abbrev cX11_facts : ByteArray := prog_1_method_11_code
def yX11_facts : MethodName := ⟨RX11, "facts", "(III)I"⟩
abbrev cX11_point : ByteArray := prog_1_method_12_code
def yX11_point : MethodName := ⟨RX11, "point", "()I"⟩
abbrev cX11_wake : ByteArray := prog_1_method_13_code
def yX11_wake : MethodName := ⟨RX11, "wake", "(II)I"⟩
abbrev cX11_sleep : ByteArray := prog_1_method_14_code
def yX11_sleep : MethodName := ⟨RX11, "sleep", "(I)I"⟩
abbrev cX11_row : ByteArray := prog_1_method_15_code
def yX11_row : MethodName := ⟨RX11, "row", "(III)I"⟩
abbrev cX11_call : ByteArray := prog_1_method_16_code
def yX11_call : MethodName := ⟨RX11, "call", "(III)I"⟩
abbrev cX11_ran : ByteArray := prog_1_method_17_code
def yX11_ran : MethodName := ⟨RX11, "ran", "(I)I"⟩
abbrev cX11_together : ByteArray := prog_1_method_18_code
def yX11_together : MethodName := ⟨RX11, "together", "(II)I"⟩
abbrev cX11_same : ByteArray := prog_1_method_19_code
def yX11_same : MethodName := ⟨RX11, "same", "(IIIII)I"⟩
abbrev cX11_kind : ByteArray := prog_1_method_20_code
def yX11_kind : MethodName := ⟨RX11, "kind", "(I)I"⟩
abbrev cX11_as : ByteArray := prog_1_method_21_code
def yX11_as : MethodName := ⟨RX11, "as", "(II)I"⟩
abbrev cX11_ask : ByteArray := prog_1_method_22_code
def yX11_ask : MethodName := ⟨RX11, "ask", "(II)I"⟩
abbrev cX11_trace : ByteArray := prog_1_method_23_code
def yX11_trace : MethodName := ⟨RX11, "trace", "(I)I"⟩
abbrev cX11_count : ByteArray := prog_1_method_24_code
def yX11_count : MethodName := ⟨RX11, "count", "(I)I"⟩
abbrev cX11_status : ByteArray := prog_1_method_25_code
def yX11_status : MethodName := ⟨RX11, "status", "()I"⟩
abbrev cX11_finding : ByteArray := prog_1_method_26_code
def yX11_finding : MethodName := ⟨RX11, "finding", "(I)I"⟩
abbrev cX11_withoutFinding : ByteArray := prog_1_method_27_code
def yX11_withoutFinding : MethodName := ⟨RX11, "withoutFinding", "(I)I"⟩
abbrev cX11_isCall : ByteArray := prog_1_method_28_code
def yX11_isCall : MethodName := ⟨RX11, "isCall", "(III)Z"⟩
abbrev cX11_isRoutine : ByteArray := prog_1_method_29_code
def yX11_isRoutine : MethodName := ⟨RX11, "isRoutine", "(I)Z"⟩
def RX12 : String := "WakingLayersModel"
def TX12 : u_T := fun k => match k with
  | 0 => ("WakingLayersModel", "thrown", "I", false)
  | 1 => ("WakingLayersModel", "status", "I", false)
  | 2 => ("WakingLayersModel", "lane", "[I", true)
  | 3 => ("WakingLayersModel", "many", "[I", true)
  | 4 => ("WakingLayersModel", "item", "[I", true)
  | 5 => ("WakingLayersModel", "kinds", "I", false)
  | 6 => ("WakingLayersModel", "under", "[I", true)
  | 7 => ("WakingLayersModel", "things", "I", false)
  | 8 => ("WakingLayersModel", "thingKind", "[I", true)
  | 9 => ("WakingLayersModel", "thingValue", "[I", true)
  | 10 => ("WakingLayersModel", "layers", "I", false)
  | 11 => ("WakingLayersModel", "sort", "[I", true)
  | 12 => ("WakingLayersModel", "rank", "[I", true)
  | 13 => ("WakingLayersModel", "testFact", "[I", true)
  | 14 => ("WakingLayersModel", "testSign", "[I", true)
  | 15 => ("WakingLayersModel", "testNumber", "[I", true)
  | 16 => ("WakingLayersModel", "needs", "[I", true)
  | 17 => ("WakingLayersModel", "bars", "[I", true)
  | 18 => ("WakingLayersModel", "bodies", "I", false)
  | 19 => ("WakingLayersModel", "bodyLayer", "[I", true)
  | 20 => ("WakingLayersModel", "bodyKind", "[I", true)
  | 21 => ("WakingLayersModel", "bodyRoutine", "[I", true)
  | 22 => ("WakingLayersModel", "way", "[I", true)
  | 23 => ("WakingLayersModel", "acts", "[I", true)
  | 24 => ("WakingLayersModel", "act", "[I", true)
  | 25 => ("WakingLayersModel", "tape", "[I", true)
  | 26 => ("WakingLayersModel", "taped", "I", false)
  | 27 => ("WakingLayersModel", "latest", "I", false)
  | 28 => ("WakingLayersModel", "size", "I", false)
  | 29 => ("WakingLayersModel", "cursor", "I", false)
  | 30 => ("WakingLayersModel", "token", "I", false)
  | 31 => ("WakingLayersModel", "from", "I", false)
  | 32 => ("WakingLayersModel", "till", "I", false)
  | 33 => ("WakingLayersModel", "fault", "I", false)
  | 34 => ("WakingLayersModel", "faultAt", "I", false)
  | 35 => ("WakingLayersModel", "newKinds", "I", false)
  | 36 => ("WakingLayersModel", "newThings", "I", false)
  | 37 => ("WakingLayersModel", "newLayers", "I", false)
  | 38 => ("WakingLayersModel", "newBodies", "I", false)
  | 39 => ("WakingLayersModel", "told", "[I", true)
  | 40 => ("WakingLayersModel", "hold", "[I", true)
  | 41 => ("WakingLayersModel", "open", "I", false)
  | 42 => ("WakingLayersModel", "openLayer", "[I", true)
  | 43 => ("WakingLayersModel", "openThing", "[I", true)
  | 44 => ("WakingLayersModel", "found", "I", false)
  | 45 => ("WakingLayersModel", "rowSize", "[I", true)
  | 46 => ("WakingLayersModel", "rowBody", "[I", true)
  | 47 => ("WakingLayersModel", "callThing", "[I", true)
  | 48 => ("WakingLayersModel", "piled", "I", false)
  | 49 => ("WakingLayersModel", "pileCall", "[I", true)
  | 50 => ("WakingLayersModel", "pileAt", "[I", true)
  | 51 => ("WakingLayersModel", "pileHad", "[I", true)
  | 52 => ("WakingLayersModel", "pileNumber", "[I", true)
  | 53 => ("WakingLayersModel", "pileAct", "[I", true)
  | 54 => ("WakingLayersModel", "pileWakes", "[I", true)
  | 55 => ("WakingLayersModel", "pileWaits", "[I", true)
  | 56 => ("WakingLayersModel", "pileFails", "[Z", true)
  | 57 => ("WakingLayersModel", "begun", "I", false)
  | 58 => ("WakingLayersModel", "began", "[I", true)
  | 59 => ("WakingLayersModel", "spent", "Z", false)
  | 60 => ("WakingLayersModel", "back", "Z", false)
  | 61 => ("WakingLayersModel", "failed", "Z", false)
  | 62 => ("WakingLayersModel", "value", "I", false)
  | 63 => ("WakingLayersModel", "call", "I", false)
  | 64 => ("WakingLayersModel", "place", "I", false)
  | 65 => ("WakingLayersModel", "ranMany", "I", false)
  | 66 => ("WakingLayersModel", "ranBody", "[I", true)
  | 67 => ("WakingLayersModel", "keptHold", "[I", true)
  | 68 => ("WakingLayersModel", "keptFound", "I", false)
  | 69 => ("WakingLayersModel", "isSet", "[Z", true)
  | 70 => ("WakingLayersModel", "trace", "[I", true)
  | _ => ("WakingLayersModel", "traced", "I", false)
def tyX12 : Nat → FieldType := fun k => match k with
  | 0 => .int
  | 1 => .int
  | 2 => .array .int
  | 3 => .array .int
  | 4 => .array .int
  | 5 => .int
  | 6 => .array .int
  | 7 => .int
  | 8 => .array .int
  | 9 => .array .int
  | 10 => .int
  | 11 => .array .int
  | 12 => .array .int
  | 13 => .array .int
  | 14 => .array .int
  | 15 => .array .int
  | 16 => .array .int
  | 17 => .array .int
  | 18 => .int
  | 19 => .array .int
  | 20 => .array .int
  | 21 => .array .int
  | 22 => .array .int
  | 23 => .array .int
  | 24 => .array .int
  | 25 => .array .int
  | 26 => .int
  | 27 => .int
  | 28 => .int
  | 29 => .int
  | 30 => .int
  | 31 => .int
  | 32 => .int
  | 33 => .int
  | 34 => .int
  | 35 => .int
  | 36 => .int
  | 37 => .int
  | 38 => .int
  | 39 => .array .int
  | 40 => .array .int
  | 41 => .int
  | 42 => .array .int
  | 43 => .array .int
  | 44 => .int
  | 45 => .array .int
  | 46 => .array .int
  | 47 => .array .int
  | 48 => .int
  | 49 => .array .int
  | 50 => .array .int
  | 51 => .array .int
  | 52 => .array .int
  | 53 => .array .int
  | 54 => .array .int
  | 55 => .array .int
  | 56 => .array .boolean
  | 57 => .int
  | 58 => .array .int
  | 59 => .boolean
  | 60 => .boolean
  | 61 => .boolean
  | 62 => .int
  | 63 => .int
  | 64 => .int
  | 65 => .int
  | 66 => .array .int
  | 67 => .array .int
  | 68 => .int
  | 69 => .array .boolean
  | 70 => .array .int
  | _ => .int
theorem nmX12 : ∀ a, a < 72 → ∀ b, b < 72 → a ≠ b → (TX12 a).2.1 ≠ (TX12 b).2.1 := by decide +kernel
theorem tyX12_ok : ∀ k, k < 72 → parseFieldDescriptor (TX12 k).2.2.1 = some (tyX12 k) := by decide +kernel
abbrev cX12_init : ByteArray := prog_14_method_1_code
def yX12_init : MethodName := ⟨RX12, "<init>", "()V"⟩
abbrev cX12_in : ByteArray := prog_14_method_3_code
def yX12_in : MethodName := ⟨RX12, "in", "(JJJ)Z"⟩
abbrev cX12_finding : ByteArray := prog_14_method_4_code
def yX12_finding : MethodName := ⟨RX12, "finding", "(I)I"⟩
abbrev cX12_isSheet : ByteArray := prog_14_method_5_code
def yX12_isSheet : MethodName := ⟨RX12, "isSheet", "(I)Z"⟩
abbrev cX12_sheet : ByteArray := prog_14_method_6_code
def yX12_sheet : MethodName := ⟨RX12, "sheet", "(III)I"⟩
abbrev cX12_set : ByteArray := prog_14_method_7_code
def yX12_set : MethodName := ⟨RX12, "set", "(III)I"⟩
abbrev cX12_copy : ByteArray := prog_14_method_8_code
def yX12_copy : MethodName := ⟨RX12, "copy", "(IIIII)I"⟩
abbrev cX12_drop : ByteArray := prog_14_method_9_code
def yX12_drop : MethodName := ⟨RX12, "drop", "(I)I"⟩
abbrev cX12_feed : ByteArray := prog_14_method_10_code
def yX12_feed : MethodName := ⟨RX12, "feed", "(JI)I"⟩
abbrev cX12_byteAt : ByteArray := prog_14_method_11_code
def yX12_byteAt : MethodName := ⟨RX12, "byteAt", "(I)I"⟩
abbrev cX12_isLetter : ByteArray := prog_14_method_12_code
def yX12_isLetter : MethodName := ⟨RX12, "isLetter", "(I)Z"⟩
abbrev cX12_isFigure : ByteArray := prog_14_method_13_code
def yX12_isFigure : MethodName := ⟨RX12, "isFigure", "(I)Z"⟩
abbrev cX12_isSign : ByteArray := prog_14_method_14_code
def yX12_isSign : MethodName := ⟨RX12, "isSign", "(I)Z"⟩
abbrev cX12_step : ByteArray := prog_14_method_15_code
def yX12_step : MethodName := ⟨RX12, "step", "()V"⟩
abbrev cX12_bad : ByteArray := prog_14_method_16_code
def yX12_bad : MethodName := ⟨RX12, "bad", "(I)V"⟩
abbrev cX12_must : ByteArray := prog_14_method_17_code
def yX12_must : MethodName := ⟨RX12, "must", "(Z)V"⟩
abbrev cX12_is : ByteArray := prog_14_method_18_code
def yX12_is : MethodName := ⟨RX12, "is", "(I)Z"⟩
abbrev cX12_word : ByteArray := prog_14_method_19_code
def yX12_word : MethodName := ⟨RX12, "word", "()J"⟩
abbrev cX12_numberTo : ByteArray := prog_14_method_20_code
def yX12_numberTo : MethodName := ⟨RX12, "numberTo", "(I)I"⟩
abbrev cX12_sortOfWord : ByteArray := prog_14_method_21_code
def yX12_sortOfWord : MethodName := ⟨RX12, "sortOfWord", "()I"⟩
abbrev cX12_wayOfWord : ByteArray := prog_14_method_22_code
def yX12_wayOfWord : MethodName := ⟨RX12, "wayOfWord", "()I"⟩
abbrev cX12_actOfWord : ByteArray := prog_14_method_23_code
def yX12_actOfWord : MethodName := ⟨RX12, "actOfWord", "(I)I"⟩
abbrev cX12_readKind : ByteArray := prog_14_method_24_code
def yX12_readKind : MethodName := ⟨RX12, "readKind", "()V"⟩
abbrev cX12_readThing : ByteArray := prog_14_method_25_code
def yX12_readThing : MethodName := ⟨RX12, "readThing", "()V"⟩
abbrev cX12_readLayer : ByteArray := prog_14_method_26_code
def yX12_readLayer : MethodName := ⟨RX12, "readLayer", "()V"⟩
abbrev cX12_readAct : ByteArray := prog_14_method_27_code
def yX12_readAct : MethodName := ⟨RX12, "readAct", "(I)V"⟩
abbrev cX12_readBody : ByteArray := prog_14_method_28_code
def yX12_readBody : MethodName := ⟨RX12, "readBody", "()V"⟩
abbrev cX12_read : ByteArray := prog_14_method_29_code
def yX12_read : MethodName := ⟨RX12, "read", "()I"⟩
abbrev cX12_fault : ByteArray := prog_14_method_30_code
def yX12_fault : MethodName := ⟨RX12, "fault", "()I"⟩
abbrev cX12_isLayer : ByteArray := prog_14_method_31_code
def yX12_isLayer : MethodName := ⟨RX12, "isLayer", "(I)Z"⟩
abbrev cX12_isThing : ByteArray := prog_14_method_32_code
def yX12_isThing : MethodName := ⟨RX12, "isThing", "(I)Z"⟩
abbrev cX12_openOf : ByteArray := prog_14_method_33_code
def yX12_openOf : MethodName := ⟨RX12, "openOf", "(I)I"⟩
abbrev cX12_isAwake : ByteArray := prog_14_method_34_code
def yX12_isAwake : MethodName := ⟨RX12, "isAwake", "(I)Z"⟩
abbrev cX12_hasNeeds : ByteArray := prog_14_method_35_code
def yX12_hasNeeds : MethodName := ⟨RX12, "hasNeeds", "(I)Z"⟩
abbrev cX12_lose : ByteArray := prog_14_method_36_code
def yX12_lose : MethodName := ⟨RX12, "lose", "()V"⟩
abbrev cX12_holdsTest : ByteArray := prog_14_method_37_code
def yX12_holdsTest : MethodName := ⟨RX12, "holdsTest", "(I)Z"⟩
abbrev cX12_find : ByteArray := prog_14_method_38_code
def yX12_find : MethodName := ⟨RX12, "find", "()V"⟩
abbrev cX12_layer : ByteArray := prog_14_method_39_code
def yX12_layer : MethodName := ⟨RX12, "layer", "(II)I"⟩
abbrev cX12_fact : ByteArray := prog_14_method_40_code
def yX12_fact : MethodName := ⟨RX12, "fact", "(II)I"⟩
abbrev cX12_facts : ByteArray := prog_14_method_41_code
def yX12_facts : MethodName := ⟨RX12, "facts", "(III)I"⟩
abbrev cX12_point : ByteArray := prog_14_method_42_code
def yX12_point : MethodName := ⟨RX12, "point", "()I"⟩
abbrev cX12_wake : ByteArray := prog_14_method_43_code
def yX12_wake : MethodName := ⟨RX12, "wake", "(II)I"⟩
abbrev cX12_close : ByteArray := prog_14_method_44_code
def yX12_close : MethodName := ⟨RX12, "close", "(I)V"⟩
abbrev cX12_sleep : ByteArray := prog_14_method_45_code
def yX12_sleep : MethodName := ⟨RX12, "sleep", "(I)I"⟩
abbrev cX12_latestOf : ByteArray := prog_14_method_46_code
def yX12_latestOf : MethodName := ⟨RX12, "latestOf", "(II)I"⟩
abbrev cX12_isAwakeFor : ByteArray := prog_14_method_47_code
def yX12_isAwakeFor : MethodName := ⟨RX12, "isAwakeFor", "(II)Z"⟩
abbrev cX12_isAhead : ByteArray := prog_14_method_48_code
def yX12_isAhead : MethodName := ⟨RX12, "isAhead", "(III)Z"⟩
abbrev cX12_lay : ByteArray := prog_14_method_49_code
def yX12_lay : MethodName := ⟨RX12, "lay", "(IIII)Z"⟩
abbrev cX12_layRow : ByteArray := prog_14_method_50_code
def yX12_layRow : MethodName := ⟨RX12, "layRow", "(III)V"⟩
abbrev cX12_row : ByteArray := prog_14_method_51_code
def yX12_row : MethodName := ⟨RX12, "row", "(III)I"⟩
abbrev cX12_topBody : ByteArray := prog_14_method_52_code
def yX12_topBody : MethodName := ⟨RX12, "topBody", "()I"⟩
abbrev cX12_over : ByteArray := prog_14_method_53_code
def yX12_over : MethodName := ⟨RX12, "over", "(Z)V"⟩
abbrev cX12_goNext : ByteArray := prog_14_method_54_code
def yX12_goNext : MethodName := ⟨RX12, "goNext", "()V"⟩
abbrev cX12_begin : ByteArray := prog_14_method_55_code
def yX12_begin : MethodName := ⟨RX12, "begin", "()Z"⟩
abbrev cX12_comeBack : ByteArray := prog_14_method_56_code
def yX12_comeBack : MethodName := ⟨RX12, "comeBack", "()Z"⟩
abbrev cX12_doActs : ByteArray := prog_14_method_57_code
def yX12_doActs : MethodName := ⟨RX12, "doActs", "()V"⟩
abbrev cX12_outermost : ByteArray := prog_14_method_58_code
def yX12_outermost : MethodName := ⟨RX12, "outermost", "(III)I"⟩
abbrev cX12_isNumber : ByteArray := prog_14_method_59_code
def yX12_isNumber : MethodName := ⟨RX12, "isNumber", "(I)Z"⟩
abbrev cX12_call : ByteArray := prog_14_method_60_code
def yX12_call : MethodName := ⟨RX12, "call", "(III)I"⟩
abbrev cX12_ran : ByteArray := prog_14_method_61_code
def yX12_ran : MethodName := ⟨RX12, "ran", "(I)I"⟩
abbrev cX12_keep : ByteArray := prog_14_method_62_code
def yX12_keep : MethodName := ⟨RX12, "keep", "()V"⟩
abbrev cX12_bringBack : ByteArray := prog_14_method_63_code
def yX12_bringBack : MethodName := ⟨RX12, "bringBack", "()V"⟩
abbrev cX12_makeWorld : ByteArray := prog_14_method_64_code
def yX12_makeWorld : MethodName := ⟨RX12, "makeWorld", "(II)V"⟩
abbrev cX12_worlds : ByteArray := prog_14_method_65_code
def yX12_worlds : MethodName := ⟨RX12, "worlds", "(I)I"⟩
abbrev cX12_together : ByteArray := prog_14_method_66_code
def yX12_together : MethodName := ⟨RX12, "together", "(II)I"⟩
abbrev cX12_same : ByteArray := prog_14_method_67_code
def yX12_same : MethodName := ⟨RX12, "same", "(IIIII)I"⟩
abbrev cX12_kindOf : ByteArray := prog_14_method_68_code
def yX12_kindOf : MethodName := ⟨RX12, "kindOf", "(I)I"⟩
abbrev cX12_isOf : ByteArray := prog_14_method_69_code
def yX12_isOf : MethodName := ⟨RX12, "isOf", "(II)Z"⟩
abbrev cX12_kind : ByteArray := prog_14_method_70_code
def yX12_kind : MethodName := ⟨RX12, "kind", "(I)I"⟩
abbrev cX12_as : ByteArray := prog_14_method_71_code
def yX12_as : MethodName := ⟨RX12, "as", "(II)I"⟩
abbrev cX12_leaves : ByteArray := prog_14_method_72_code
def yX12_leaves : MethodName := ⟨RX12, "leaves", "(I)V"⟩
abbrev cX12_markOf : ByteArray := prog_14_method_73_code
def yX12_markOf : MethodName := ⟨RX12, "markOf", "(II)I"⟩
abbrev cX12_bits : ByteArray := prog_14_method_74_code
def yX12_bits : MethodName := ⟨RX12, "bits", "(I)I"⟩
abbrev cX12_sizeOf : ByteArray := prog_14_method_75_code
def yX12_sizeOf : MethodName := ⟨RX12, "sizeOf", "(II)I"⟩
abbrev cX12_askedSize : ByteArray := prog_14_method_76_code
def yX12_askedSize : MethodName := ⟨RX12, "askedSize", "(II)I"⟩
abbrev cX12_ask : ByteArray := prog_14_method_77_code
def yX12_ask : MethodName := ⟨RX12, "ask", "(II)I"⟩
abbrev cX12_trace : ByteArray := prog_14_method_78_code
def yX12_trace : MethodName := ⟨RX12, "trace", "(I)I"⟩
abbrev cX12_count : ByteArray := prog_14_method_79_code
def yX12_count : MethodName := ⟨RX12, "count", "(I)I"⟩
abbrev cX12_status : ByteArray := prog_14_method_80_code
def yX12_status : MethodName := ⟨RX12, "status", "()I"⟩
def RJ6 : String := "java/lang/Integer"
abbrev cJ6_bitCount_0f7a4 : ByteArray := prog_15_method_49_code
def yJ6_bitCount_0f7a4 : MethodName := ⟨RJ6, "bitCount", "(I)I"⟩
def RJ0 : String := "java/lang/String"
abbrev cJ0_length_8abf5 : ByteArray := prog_16_method_54_code
def yJ0_length_8abf5 : MethodName := ⟨RJ0, "length", "()I"⟩
abbrev cJ0_charAt_5068e : ByteArray := prog_16_method_56_code
def yJ0_charAt_5068e : MethodName := ⟨RJ0, "charAt", "(I)C"⟩
abbrev cJ0_coder_7d493 : ByteArray := prog_16_method_152_code
def yJ0_coder_7d493 : MethodName := ⟨RJ0, "coder", "()B"⟩
abbrev cJ0_isLatin1_aae02 : ByteArray := prog_16_method_154_code
def yJ0_isLatin1_aae02 : MethodName := ⟨RJ0, "isLatin1", "()Z"⟩
abbrev cJ0_checkIndex_df160 : ByteArray := prog_16_method_155_code
def yJ0_checkIndex_df160 : MethodName := ⟨RJ0, "checkIndex", "(II)V"⟩
def RJ1 : String := "java/lang/StringLatin1"
abbrev cJ1_charAt_3b067 : ByteArray := prog_17_method_2_code
def yJ1_charAt_3b067 : MethodName := ⟨RJ1, "charAt", "([BI)C"⟩
def RJ2 : String := "java/lang/StringUTF16"
abbrev cJ2_getChar_3b067 : ByteArray := prog_18_method_5_code
def yJ2_getChar_3b067 : MethodName := ⟨RJ2, "getChar", "([BI)C"⟩
abbrev cJ2_length_9d52b : ByteArray := prog_18_method_6_code
def yJ2_length_9d52b : MethodName := ⟨RJ2, "length", "([B)I"⟩
abbrev cJ2_charAt_3b067 : ByteArray := prog_18_method_83_code
def yJ2_charAt_3b067 : MethodName := ⟨RJ2, "charAt", "([BI)C"⟩
abbrev cJ2_checkIndex_2214a : ByteArray := prog_18_method_91_code
def yJ2_checkIndex_2214a : MethodName := ⟨RJ2, "checkIndex", "(I[B)V"⟩
def RJ10 : String := "java/lang/System"
def RJ3 : String := "jdk/internal/util/Preconditions"
abbrev cJ3_checkIndex_8e157 : ByteArray := prog_20_method_11_code
def yJ3_checkIndex_8e157 : MethodName := ⟨RJ3, "checkIndex", "(IILjava/util/function/BiFunction;)I"⟩
def RL : String := "WakingLayersLaw"
abbrev cL_law : ByteArray := code
def yL_law : MethodName := ⟨RL, "law", "([I)Z"⟩
abbrev vwCl : List vw_C := [(RX0, TX0, 4), (RX1, TX1, 8), (RX2, TX2, 6), (RX3, TX3, 8), (RX4, TX4, 13), (RX5, TX5, 5), (RX6, TX6, 5), (RX7, TX7, 9), (RX8, TX8, 4), (RX9, TX9, 5), (RX10, TX10, 6), (RX11, TX11, 11), (RX12, TX12, 72)]
end
section
def x_N : Nat := 203
def x_kdL : List Nat := [11, 8, 14, 13, 13, 17, 13, 13, 13, 13, 13, 13, 13, 13, 10, 13, 4, 13, 13, 13, 16, 15, 3, 3, 3, 3, 3, 3, 3, 3, 1, 13, 13, 13, 1, 13, 13, 13, 1, 13, 13, 13, 1, 13, 13, 13, 1, 13, 13, 13, 1, 13, 13, 13, 1, 13, 13, 13, 1, 13, 13, 13, 1, 13, 13, 13, 1, 13, 13, 13, 1, 13, 13, 13, 1, 13, 13, 13, 1, 13, 13, 13, 1, 13, 13, 13, 1, 13, 13, 13, 1, 13, 13, 13, 1, 13, 13, 13, 1, 13, 13, 13, 1, 13, 13, 13, 1, 13, 13, 13, 1, 13, 13, 13, 1, 13, 13, 13, 1, 13, 13, 13, 1, 13, 13, 13, 5, 2, 13, 13, 13, 6, 13, 13, 13, 7, 17, 13, 13, 13, 13, 13, 13, 13, 13, 13, 9, 7, 17, 13, 13, 13, 13, 13, 13, 13, 13, 13, 13, 14, 0, 13, 12, 13, 13, 13, 13, 13, 13, 13, 13, 13, 13, 13, 13, 13, 13, 13, 13, 13, 13, 13, 13, 13, 13, 13, 13, 13, 13, 13, 13, 13, 13, 13, 13, 13, 13, 14, 13, 13, 13, 14, 13]
def x_szL : List Nat := [11, 4, 8, 8, 8, 8, 40, 40, 40, 40, 40, 40, 40, 40, 6, 600, 13, 8, 8, 8, 8, 24, 8, 8, 8, 8, 8, 8, 8, 8, 8, 6, 6, 6, 8, 6, 6, 6, 8, 6, 6, 6, 8, 6, 6, 6, 8, 6, 6, 6, 8, 6, 6, 6, 8, 6, 6, 6, 8, 6, 6, 6, 8, 6, 6, 6, 8, 6, 6, 6, 8, 6, 6, 6, 8, 6, 6, 6, 8, 6, 6, 6, 8, 6, 6, 6, 8, 6, 6, 6, 8, 6, 6, 6, 8, 6, 6, 6, 8, 6, 6, 6, 8, 6, 6, 6, 8, 6, 6, 6, 8, 6, 6, 6, 8, 6, 6, 6, 8, 6, 6, 6, 8, 6, 6, 6, 5, 6, 4, 16, 16, 5, 8, 24, 24, 9, 6, 24, 24, 24, 24, 24, 24, 6, 6, 40, 5, 9, 6, 24, 24, 24, 24, 24, 24, 6, 6, 40, 4, 256, 4, 16, 72, 8, 8, 320, 8, 8, 8, 8, 8, 8, 8, 8, 8, 8, 24, 24, 24, 24, 24, 432, 600, 4, 4, 16, 16, 7, 168, 7, 61, 61, 61, 61, 61, 61, 61, 61, 40, 40, 4, 256, 16]
def x_rfL : List (List (Option Nat)) := [[some 1, some 14, some 16, some 126, some 127, some 131, some 134, some 135, some 146, some 160, none], [some 2, some 3, some 4, some 5], [], [], [], [some 6, some 7, some 8, some 9, some 10, some 11, some 12, some 13], [], [], [], [], [], [], [], [], [some 15, none, none, none, none, none], [], [some 17, some 18, some 19, some 20, some 21, none, none, none, none, none, none, none, none], [], [], [], [some 22, some 23, some 24, some 25, some 26, some 27, some 28, some 29], [some 30, some 34, some 38, some 42, some 46, some 50, some 54, some 58, some 62, some 66, some 70, some 74, some 78, some 82, some 86, some 90, some 94, some 98, some 102, some 106, some 110, some 114, some 118, some 122], [], [], [], [], [], [], [], [], [some 31, some 32, some 33, none, none, none, none, none], [], [], [], [some 35, some 36, some 37, none, none, none, none, none], [], [], [], [some 39, some 40, some 41, none, none, none, none, none], [], [], [], [some 43, some 44, some 45, none, none, none, none, none], [], [], [], [some 47, some 48, some 49, none, none, none, none, none], [], [], [], [some 51, some 52, some 53, none, none, none, none, none], [], [], [], [some 55, some 56, some 57, none, none, none, none, none], [], [], [], [some 59, some 60, some 61, none, none, none, none, none], [], [], [], [some 63, some 64, some 65, none, none, none, none, none], [], [], [], [some 67, some 68, some 69, none, none, none, none, none], [], [], [], [some 71, some 72, some 73, none, none, none, none, none], [], [], [], [some 75, some 76, some 77, none, none, none, none, none], [], [], [], [some 79, some 80, some 81, none, none, none, none, none], [], [], [], [some 83, some 84, some 85, none, none, none, none, none], [], [], [], [some 87, some 88, some 89, none, none, none, none, none], [], [], [], [some 91, some 92, some 93, none, none, none, none, none], [], [], [], [some 95, some 96, some 97, none, none, none, none, none], [], [], [], [some 99, some 100, some 101, none, none, none, none, none], [], [], [], [some 103, some 104, some 105, none, none, none, none, none], [], [], [], [some 107, some 108, some 109, none, none, none, none, none], [], [], [], [some 111, some 112, some 113, none, none, none, none, none], [], [], [], [some 115, some 116, some 117, none, none, none, none, none], [], [], [], [some 119, some 120, some 121, none, none, none, none, none], [], [], [], [some 123, some 124, some 125, none, none, none, none, none], [], [], [], [some 14, some 16, none, none, none], [some 16, some 128, some 129, some 130, none, none], [], [], [], [some 16, some 127, some 132, some 133, none], [], [], [], [some 16, some 127, some 131, some 136, some 143, some 144, some 145, none, none], [some 137, some 138, some 139, some 140, some 141, some 142], [], [], [], [], [], [], [], [], [], [some 16, some 127, some 147, some 158, some 159], [some 16, some 127, some 131, some 148, some 155, some 156, some 157, none, none], [some 149, some 150, some 151, some 152, some 153, some 154], [], [], [], [], [], [], [], [], [], [], [], [some 16, some 127, some 161, none], [], [none, none, some 163, some 164, some 165, none, some 166, none, some 167, some 168, none, some 169, some 170, some 171, some 172, some 173, some 174, some 175, none, some 176, some 177, some 178, some 179, some 180, some 181, some 182, none, none, none, none, none, none, none, none, none, none, none, none, none, some 183, some 184, none, some 185, some 186, none, some 187, some 188, some 189, none, some 190, some 191, some 192, some 193, some 194, some 195, some 196, some 197, none, some 198, none, none, none, none, none, none, none, some 199, some 200, none, some 201, some 202, none], [], [], [], [], [], [], [], [], [], [], [], [], [], [], [], [], [], [], [], [], [], [], [], [], [], [], [], [], [], [], [], [], [], [], [], [], [], [], [], []]
/-- which fields of a class are references -/
def x_frL : List (List Bool) := [[true, true, true, false], [true, true, true, false, false, false, false, false], [true, true, true, true, false, false], [false, false, false, false, false, false, false, false], [true, true, true, true, true, false, false, false, false, false, false, false, false], [true, true, false, false, false], [true, true, true, true, false], [true, true, true, true, true, true, true, false, false], [true, true, true, true], [true, true, true, true, true], [true, false, false, false, false, false], [true, true, true, true, true, true, true, true, true, true, false], [false, false, true, true, true, false, true, false, true, true, false, true, true, true, true, true, true, true, false, true, true, true, true, true, true, true, false, false, false, false, false, false, false, false, false, false, false, false, false, true, true, false, true, true, false, true, true, true, false, true, true, true, true, true, true, true, true, false, true, false, false, false, false, false, false, false, true, true, false, true, true, false]]
def x_kd (k : Nat) : Nat := x_kdL.getD k 99
def x_sz (k : Nat) : Nat := x_szL.getD k 0
def x_rf (k j : Nat) : Option Nat := (x_rfL.getD k []).getD j none
def x_fr (c j : Nat) : Bool := (x_frL.getD c []).getD j false
/-- the numbers of a class's fields -/
def x_nf (c : Nat) : Nat := (x_frL.getD c []).length
theorem x_szf : ∀ k, k < x_N → x_kd k < 13 → x_sz k = x_nf (x_kd k) := by decide +kernel
theorem x_kd18 : ∀ k, k < x_N → x_kd k < 18 := by decide +kernel
def x_aboL : List Int32 := [-1, 0, 1, 0, 3, 0]
def x_txt : List String := ["kind thing layer body", "under", "span thing ask ever", "need", "bar", "plain", "before behind around instead", "add mul own proceed call wake fail"]
def x_txI : List Nat := [53, 82, 115, 145, 150, 192, 166, 177]
def x_byt : List (List Int32) := [[107, 105, 110, 100, 32, 116, 104, 105, 110, 103, 32, 108, 97, 121, 101, 114, 32, 98, 111, 100, 121], [117, 110, 100, 101, 114], [115, 112, 97, 110, 32, 116, 104, 105, 110, 103, 32, 97, 115, 107, 32, 101, 118, 101, 114], [110, 101, 101, 100], [98, 97, 114], [112, 108, 97, 105, 110], [98, 101, 102, 111, 114, 101, 32, 98, 101, 104, 105, 110, 100, 32, 97, 114, 111, 117, 110, 100, 32, 105, 110, 115, 116, 101, 97, 100], [97, 100, 100, 32, 109, 117, 108, 32, 111, 119, 110, 32, 112, 114, 111, 99, 101, 101, 100, 32, 99, 97, 108, 108, 32, 119, 97, 107, 101, 32, 102, 97, 105, 108]]
def x_len : List Nat := [21, 5, 19, 4, 3, 5, 28, 34]
end
section
/-! THE ROWS: behind the constructors the heap is one memory over a fixed shape -/
/-! the words that all methods share -/
def x_ws : List Cond := lw_tbl.filter goodWord
theorem x_in {w : Cond} (i : Nat) (h : lw_tbl[i]? = some w) (hg : goodWord w = true) : w ∈ x_ws := List.mem_filter.mpr ⟨List.mem_of_getElem? h, hg⟩
theorem x_ws_tbl : ∀ w ∈ x_ws, w ∈ lw_tbl := fun _ h => (List.mem_filter.mp h).1
theorem x_ins (ws : List Cond) (ps : List Nat) (h : ws = ps.filterMap (fun i => lw_tbl[i]?)) (hg : ws.all goodWord = true) : ∀ w ∈ ws, w ∈ x_ws := by
  intro w hw
  have h1 := List.all_eq_true.mp hg w hw
  rw [h] at hw
  obtain ⟨i, -, hi⟩ := List.mem_filterMap.mp hw
  exact x_in i hi h1
theorem x_good {big : List Cond} (h : ∀ w ∈ x_ws, w ∈ big) : GoodIn big x_ws := fun w hw => ⟨h w hw, good_of_word (List.mem_filter.mp hw).2⟩
abbrev xMu : Type := Nat → Nat → Int32
def x_wr (μ : xMu) (k j : Nat) (v : Int32) : xMu := fun a b => if a = k ∧ b = j then v else μ a b
theorem x_wr_ne {μ : xMu} {k j : Nat} {v : Int32} {a : Nat} (h : a ≠ k) : x_wr μ k j v a = μ a := by
  funext b; simp [x_wr, h]
theorem x_wr_row (μ : xMu) (k j : Nat) (v : Int32) : x_wr μ k j v k = upd (μ k) j v := by
  funext b; simp [x_wr, upd]
def x_cv (ad : Nat → Nat) : Value → Value
  | .ref k => .ref (ad k)
  | v => v
def x_fv (μ : xMu) (k j : Nat) : Value := if x_fr (x_kd k) j then va_rf (x_rf k j) else .int (μ k j)
def x_cell (cy : Nat → ClassId) (ad : Nat → Nat) (μ : xMu) (k : Nat) : va_E :=
  if x_kd k < 13 then .inr (x_kd k, (List.range (x_sz k)).map (fun j => x_cv ad (x_fv μ k j)))
  else if x_kd k < 15 then .inl (cy (x_kd k), x_sz k, .inl (μ k))
  else .inl (cy (x_kd k), x_sz k, .inr (.inr (.inr (.inr (fun j => (x_rf k j).map ad)))))
def x_W (cy : Nat → ClassId) (ad : Nat → Nat) (μ : xMu) : va_W := (List.range x_N).map (fun k => (ad k, x_cell cy ad μ k))
theorem x_W_at {cy : Nat → ClassId} {ad : Nat → Nat} {μ : xMu} {k : Nat} (hk : k < x_N) : (x_W cy ad μ)[k]? = some (ad k, x_cell cy ad μ k) := by
  simp [x_W, hk]
theorem x_W_len (cy : Nat → ClassId) (ad : Nat → Nat) (μ : xMu) : (x_W cy ad μ).length = x_N := by simp [x_W]
theorem x_cell_ne {cy : Nat → ClassId} {ad : Nat → Nat} {μ : xMu} {k j : Nat} {v : Int32} {a : Nat} (h : a ≠ k) : x_cell cy ad (x_wr μ k j v) a = x_cell cy ad μ a := by
  simp only [x_cell, x_fv, x_wr_ne h]
theorem x_W_set {cy : Nat → ClassId} {ad : Nat → Nat} {μ μ' : xMu} {k : Nat} {e : va_E} (he : e = x_cell cy ad μ' k) (hn : ∀ a, a ≠ k → x_cell cy ad μ' a = x_cell cy ad μ a) : (x_W cy ad μ).set k (ad k, e) = x_W cy ad μ' := by
  apply List.ext_getElem?
  intro i
  rw [List.getElem?_set]
  by_cases hi : i < x_N
  · by_cases h : k = i
    · subst h
      rw [if_pos rfl, x_W_len, if_pos hi, x_W_at hi, he]
    · rw [if_neg h, x_W_at hi, x_W_at hi, hn i (Ne.symm h)]
  · have h1 : (x_W cy ad μ)[i]? = none := by rw [List.getElem?_eq_none_iff, x_W_len]; omega
    have h2 : (x_W cy ad μ')[i]? = none := by rw [List.getElem?_eq_none_iff, x_W_len]; omega
    rw [h1, h2, x_W_len]
    by_cases h : k = i
    · subst h
      rw [if_pos rfl, if_neg hi]
    · rw [if_neg h]
def x_tys (cy : Nat → ClassId) : List (ClassId × FieldType) := [(cy 13, .int), (cy 14, .boolean), (cy 15, .object "WakingLayers$Body"), (cy 16, .object "WakingLayers$Layer"), (cy 17, .array .int)]
def x_inj (ad : Nat → Nat) : Prop := ∀ i j, i < x_N → j < x_N → ad i = ad j → i = j
def x_A (ad : Nat → Nat) : Nat → Prop := fun q => ∃ k, k < x_N ∧ ad k = q
theorem x_W_some {cy : Nat → ClassId} {ad : Nat → Nat} {μ : xMu} {i : Nat} {q : Nat × va_E} (h : (x_W cy ad μ)[i]? = some q) : i < x_N ∧ q = (ad i, x_cell cy ad μ i) := by
  have hi : i < x_N := by
    have := (List.getElem?_eq_some_iff.mp h).1
    rwa [x_W_len] at this
  rw [x_W_at hi] at h
  exact ⟨hi, (Option.some.inj h).symm⟩
theorem x_D {cy : Nat → ClassId} {ad : Nat → Nat} {μ : xMu} (h : x_inj ad) : va_D (x_A ad) (x_W cy ad μ) := by
  refine ⟨fun i j p q hp hq he => ?_, fun k q hq => ?_⟩
  · obtain ⟨h1, rfl⟩ := x_W_some hp
    obtain ⟨h2, rfl⟩ := x_W_some hq
    exact h i j h1 h2 he
  · obtain ⟨h1, rfl⟩ := x_W_some hq
    exact ⟨k, h1, rfl⟩
/-- cell k is of kind c -/
def x_is (k c : Nat) : Prop := k < x_N ∧ x_kd k = c
theorem x_cell_o {cy : Nat → ClassId} {ad : Nat → Nat} {μ : xMu} {k c : Nat} (h : x_kd k = c) (hc : c < 13) : x_cell cy ad μ k = .inr (c, (List.range (x_sz k)).map (fun j => x_cv ad (x_fv μ k j))) := by
  simp [x_cell, h, hc]
theorem x_cell_i {cy : Nat → ClassId} {ad : Nat → Nat} {μ : xMu} {k : Nat} (h : x_kd k = 13) : x_cell cy ad μ k = .inl (cy 13, x_sz k, .inl (μ k)) := by
  simp [x_cell, h]
theorem x_cell_z {cy : Nat → ClassId} {ad : Nat → Nat} {μ : xMu} {k : Nat} (h : x_kd k = 14) : x_cell cy ad μ k = .inl (cy 14, x_sz k, .inl (μ k)) := by
  simp [x_cell, h]
theorem x_cell_r {cy : Nat → ClassId} {ad : Nat → Nat} {μ : xMu} {k c : Nat} (h : x_kd k = c) (hc : ¬ c < 15) : x_cell cy ad μ k = .inl (cy c, x_sz k, .inr (.inr (.inr (.inr (fun j => (x_rf k j).map ad))))) := by
  have : ¬ c < 13 := by omega
  simp [x_cell, h, hc, this]
theorem x_put_cell {cy : Nat → ClassId} {ad : Nat → Nat} {μ : xMu} {k j c : Nat} {v : Int32} (h : x_kd k = c) (hc : c < 13) (hf : x_fr c j = false) :
    (.inr (c, ((List.range (x_sz k)).map (fun j => x_cv ad (x_fv μ k j))).set j (.int v)) : va_E) = x_cell cy ad (x_wr μ k j v) k := by
  rw [x_cell_o h hc]
  congr 2
  apply List.ext_getElem?
  intro i
  rw [List.getElem?_set]
  by_cases hi : i < x_sz k
  · by_cases e : j = i
    · subst e
      simp [hi, x_fv, h, hf, x_wr, x_cv]
    · have e' : ¬ i = j := fun q => e q.symm
      simp only [if_neg e, List.getElem?_map, List.getElem?_range hi, Option.map_some, x_fv, x_wr]
      simp [e']
  · have h1 : (List.range (x_sz k))[i]? = none := by simp; omega
    simp only [List.getElem?_map, h1, Option.map_none, List.length_map, List.length_range]
    by_cases e : j = i
    · simp [e, hi]
    · simp [e]
/-! the locals -/
def x_LR (ad : Nat → Nat) (ls : Array Slot) (nL : Nat) (L : List (Option Value)) : Prop := ls.size = nL ∧ L.length = nL ∧ lv_wf ls ∧ ∀ (i : Nat) (v : Value), L[i]? = some (some v) → ls[i]? = some (.val (x_cv ad v))
def x_lp (ad : Nat → Nat) (L : List (Option Value)) : List (Nat × Value) := (List.range L.length).filterMap (fun i => match L[i]? with
  | some (some v) => some (i, x_cv ad v)
  | _ => none)
theorem x_lp_mem {ad : Nat → Nat} {L : List (Option Value)} {i : Nat} {w : Value} : (i, w) ∈ x_lp ad L ↔ ∃ v, L[i]? = some (some v) ∧ w = x_cv ad v := by
  unfold x_lp
  rw [List.mem_filterMap]
  constructor
  · rintro ⟨j, -, h⟩
    split at h
    · next v hv => cases h; exact ⟨v, hv, rfl⟩
    · cases h
  · rintro ⟨v, h, rfl⟩
    refine ⟨i, List.mem_range.mpr (List.getElem?_eq_some_iff.mp h).1, ?_⟩
    rw [h]
theorem x_LR.has {ad : Nat → Nat} {ls : Array Slot} {nL : Nat} {L : List (Option Value)} (h : x_LR ad ls nL L) : lv_has ls nL (x_lp ad L) := by
  refine ⟨h.1, h.2.2.1, ?_⟩
  rintro ⟨i, w⟩ hq
  obtain ⟨v, h1, rfl⟩ := x_lp_mem.mp hq
  exact h.2.2.2 i v h1
theorem x_cv_cat (ad : Nat → Nat) (v : Value) : (x_cv ad v).category = v.category := by cases v <;> rfl
/-- may place i be written without cutting a long in two? -/
def x_ok1 (L : List (Option Value)) (i : Nat) : Bool := match i with
  | 0 => true
  | j + 1 => match L[j]? with
    | some (some v) => v.category == 1
    | _ => true
def x_st1 (L : List (Option Value)) (i : Nat) (v : Value) : Option (List (Option Value)) := if i < L.length ∧ x_ok1 L i = true then some (L.set i (some v)) else none
def x_st2 (L : List (Option Value)) (i : Nat) (v : Value) : Option (List (Option Value)) := if i + 1 < L.length ∧ x_ok1 L i = true then some ((L.set i (some v)).set (i + 1) none) else none
theorem x_ok1_at {L : List (Option Value)} {i j : Nat} {v : Value} (h : x_ok1 L i = true) (hj : j + 1 = i) (hv : L[j]? = some (some v)) : v.category = 1 := by
  subst hj
  simp only [x_ok1, hv] at h
  exact beq_iff_eq.mp h
theorem x_LR.st1 {ad : Nat → Nat} {ls ls' : Array Slot} {nL i : Nat} {L L' : List (Option Value)} {v w : Value} (h : x_LR ad ls nL L) (hs : x_st1 L i v = some L') (hw : w = x_cv ad v)
    (hl : lv_has ls' nL ((i, w) :: (x_lp ad L).filter (fun q => !(q.1 == i) && !(q.1 + 1 == i && q.2.category == 2)))) : x_LR ad ls' nL L' := by
  unfold x_st1 at hs
  split at hs
  · next hi =>
    cases hs
    refine ⟨hl.1, by rw [List.length_set]; exact h.2.1, hl.2.1, fun j u hu => ?_⟩
    rw [List.getElem?_set] at hu
    by_cases e : i = j
    · subst e
      rw [if_pos rfl, if_pos hi.1] at hu
      cases hu
      exact hl.2.2 (i, x_cv ad v) (by rw [← hw]; exact List.mem_cons_self)
    · rw [if_neg e] at hu
      refine hl.2.2 (j, x_cv ad u) (List.mem_cons_of_mem _ (List.mem_filter.mpr ⟨x_lp_mem.mpr ⟨u, hu, rfl⟩, ?_⟩))
      have e' : ¬ j = i := fun q => e q.symm
      by_cases g : j + 1 = i
      · have := x_ok1_at hi.2 g hu
        simp [e', x_cv_cat, this]
      · simp [e', g]
  · cases hs
theorem x_LR.st2 {ad : Nat → Nat} {ls ls' : Array Slot} {nL i : Nat} {L L' : List (Option Value)} {v w : Value} (h : x_LR ad ls nL L) (hs : x_st2 L i v = some L') (hw : w = x_cv ad v)
    (hl : lv_has ls' nL ((i, w) :: (x_lp ad L).filter (fun q => !(q.1 == i) && (!(q.1 == i + 1) && !(q.1 + 1 == i && q.2.category == 2))))) : x_LR ad ls' nL L' := by
  unfold x_st2 at hs
  split at hs
  · next hi =>
    cases hs
    refine ⟨hl.1, by rw [List.length_set, List.length_set]; exact h.2.1, hl.2.1, fun j u hu => ?_⟩
    rw [List.getElem?_set] at hu
    by_cases e2 : i + 1 = j
    · subst e2
      rw [if_pos rfl] at hu
      split at hu <;> cases hu
    rw [if_neg e2, List.getElem?_set] at hu
    by_cases e : i = j
    · subst e
      rw [if_pos rfl, if_pos (by omega)] at hu
      cases hu
      exact hl.2.2 (i, x_cv ad v) (by rw [← hw]; exact List.mem_cons_self)
    · rw [if_neg e] at hu
      refine hl.2.2 (j, x_cv ad u) (List.mem_cons_of_mem _ (List.mem_filter.mpr ⟨x_lp_mem.mpr ⟨u, hu, rfl⟩, ?_⟩))
      have e' : ¬ j = i := fun q => e q.symm
      have e3 : ¬ j = i + 1 := fun q => e2 q.symm
      by_cases g : j + 1 = i
      · have := x_ok1_at hi.2 g hu
        simp [e', e3, x_cv_cat, this]
      · simp [e', e3, g]
  · cases hs
end
section
/-! a frame over the memory -/
/-- what lies outside the memory: the table ABOVE, the String constants -/
def x_Ext (ad : Nat → Nat) (U : State) : Prop :=
  va_Z "WakingLayers$Asker" "ABOVE" "[I" (.ref (ad 900)) (x_A ad) U U.heap ∧ va_T .int (ad 900) 6 (fun j => .int (x_aboL.getD j 0)) (x_A ad) U U.heap ∧
  va_Z "java/lang/String" "COMPACT_STRINGS" "Z" (.int 1) (x_A ad) U U.heap ∧
  vk_S 8 x_len x_byt (fun i => ad (910 + i)) (fun i => ad (930 + i)) (x_A ad) U U.heap ∧
  (∀ i, i < 8 → vk_R "WakingLayers$Reader" (x_txI.getD i 0) (x_txt.getD i "") (ad (910 + i)) U) ∧
  ∃ v : Value, (v = .null ∨ v = .ref 950) ∧ va_Z "jdk/internal/util/Preconditions" "SIOOBE_FORMATTER" "Ljava/util/function/BiFunction;" (x_cv ad v) (x_A ad) U U.heap
theorem x_Ext.go {ad : Nat → Nat} {s U : State} {H : Heap} {locs : List Loc} (h : x_Ext ad s) (hS : va_S (x_A ad) s.heap H locs) (hU : U.heap = H) (hW : s.WarmedH U.vm) : x_Ext ad U := by
  obtain ⟨h1, h2, h3, h4, h5, v, h6, h7⟩ := h
  subst hU
  exact ⟨(h1.kept hS.2.1).moved hW.alike, (h2.kept hS.2.1).moved hW.alike, (h3.kept hS.2.1).moved hW.alike, (h4.kept hS.2.1).moved hW.alike, fun i hi => vk_R.warm hW (h5 i hi), v, h6, (h7.kept hS.2.1).moved hW.alike⟩
theorem x_Ext.same {ad : Nat → Nat} {s U : State} (h : x_Ext ad s) (hU : U.heap = s.heap) (hv : U.vm = s.vm) : x_Ext ad U := by
  obtain ⟨h1, h2, h3, h4, h5, v, h6, h7⟩ := h
  have hal : s.vm.Alike U.vm := by rw [hv]; exact Vm.Alike.refl _
  unfold x_Ext
  rw [hU]
  exact ⟨h1.moved hal, h2.moved hal, h3.moved hal, h4.moved hal, fun i hi => vk_R.same hv (h5 i hi), v, h6, h7.moved hal⟩
/-- a method: its name, bytes, locals, answer's type -/
abbrev xM : Type := MethodName × ByteArray × Nat × Option FieldType
def x_E (D : va_G) (cy : Nat → ClassId) (ad : Nat → Nat) (M : xM) (p : Program) (s : State) (m : MethodId) (args : Array Value) (c : Code) : Prop :=
  p.tables.exec = Jvm.exec ∧ c.code = M.2.1 ∧ c.maxLocals = M.2.2.1 ∧ s.vm.findClass M.1.cls = some m.cls ∧ (∀ w ∈ x_ws, w.before args s = true) ∧ va_K D vwCl (x_tys cy) s ∧ x_inj ad ∧ x_Ext ad s
section Wy
variable {p : Program} {l : Launch} {e : Env} {R : Room} {s : State} {m : MethodId} {args : Array Value} {below : List Frame} {meth : Method} {c : Code} {cells slots : Nat} {Qf : State → Prop} {D : va_G} {cy : Nat → ClassId} {ad : Nat → Nat} {M : xM}
def Wy (p : Program) (l : Launch) (e : Env) (R : Room) (s : State) (m : MethodId) (args : Array Value) (below : List Frame) (meth : Method) (c : Code) (cells slots : Nat) (Qf : State → Prop) (D : va_G) (cy : Nat → ClassId) (ad : Nat → Nat) (M : xM) (pc : Nat) (L : List (Option Value)) (st : List Value) (μ : xMu) : Prop :=
  ∀ (ls : Array Slot) (H : Heap) (locs : List Loc), x_LR ad ls M.2.2.1 L → va_P D vwCl (x_W cy ad μ) H → va_S (x_A ad) s.heap H locs → W p l e R s m args below meth c H locs cells slots Qf (F0 m pc ls (st.map (x_cv ad)))
/-! instructions without the heap -/
def x_sz1 : Instr → Nat
  | .bipush _ => 2 | .sipush _ => 3 | .iload _ => 2 | .lload _ => 2 | .aload _ => 2 | .istore _ => 2 | .lstore _ => 2 | .astore _ => 2 | .iinc _ _ => 3
  | _ => 1
def x_ldi (L : List (Option Value)) (st : List Value) (i : Nat) : Option (List (Option Value) × List Value) := match L[i]? with
  | some (some (.int x)) => some (L, .int x :: st)
  | _ => none
def x_ldl (L : List (Option Value)) (st : List Value) (i : Nat) : Option (List (Option Value) × List Value) := match L[i]? with
  | some (some (.long x)) => some (L, .long x :: st)
  | _ => none
def x_lda (L : List (Option Value)) (st : List Value) (i : Nat) : Option (List (Option Value) × List Value) := match L[i]? with
  | some (some (.ref x)) => some (L, .ref x :: st)
  | _ => none
def x_sti (L : List (Option Value)) (st : List Value) (i : Nat) : Option (List (Option Value) × List Value) := match st with
  | .int x :: r => (x_st1 L i (.int x)).map fun L' => (L', r)
  | _ => none
def x_stl (L : List (Option Value)) (st : List Value) (i : Nat) : Option (List (Option Value) × List Value) := match st with
  | .long x :: r => (x_st2 L i (.long x)).map fun L' => (L', r)
  | _ => none
def x_sta (L : List (Option Value)) (st : List Value) (i : Nat) : Option (List (Option Value) × List Value) := match st with
  | .ref x :: r => (x_st1 L i (.ref x)).map fun L' => (L', r)
  | _ => none
def x_ii (L : List (Option Value)) (st : List Value) (f : Int32 → Int32 → Int32) : Option (List (Option Value) × List Value) := match st with
  | .int y :: .int x :: r => some (L, .int (f x y) :: r)
  | _ => none
def x_ll (L : List (Option Value)) (st : List Value) (f : Int64 → Int64 → Int64) : Option (List (Option Value) × List Value) := match st with
  | .long y :: .long x :: r => some (L, .long (f x y) :: r)
  | _ => none
def x_li (L : List (Option Value)) (st : List Value) (f : Int64 → Int32 → Int64) : Option (List (Option Value) × List Value) := match st with
  | .int y :: .long x :: r => some (L, .long (f x y) :: r)
  | _ => none
def x_i1 (L : List (Option Value)) (st : List Value) (f : Int32 → Int32) : Option (List (Option Value) × List Value) := match st with
  | .int x :: r => some (L, .int (f x) :: r)
  | _ => none
def x_ev1 (i : Instr) (L : List (Option Value)) (st : List Value) : Option (List (Option Value) × List Value) := match i with
  | .iconst n => some (L, .int (Int32.ofInt n) :: st)
  | .bipush n => some (L, .int (Int8.ofInt n).toInt32 :: st)
  | .sipush n => some (L, .int (Int16.ofInt n).toInt32 :: st)
  | .lconst n => some (L, .long (Int64.ofNat (n : Nat)) :: st)
  | .iload_n k => x_ldi L st k
  | .iload k => x_ldi L st k
  | .lload_n k => x_ldl L st k
  | .lload k => x_ldl L st k
  | .aload_n k => x_lda L st k
  | .aload k => x_lda L st k
  | .istore_n k => x_sti L st k
  | .istore k => x_sti L st k
  | .lstore_n k => x_stl L st k
  | .lstore k => x_stl L st k
  | .astore_n k => x_sta L st k
  | .astore k => x_sta L st k
  | .iinc k n => match L[k]? with
    | some (some (.int x)) => (x_st1 L k (.int (x + Int32.ofInt n))).map fun L' => (L', st)
    | _ => none
  | .iadd => x_ii L st (fun x y => x + y)
  | .isub => x_ii L st (fun x y => x - y)
  | .imul => x_ii L st (fun x y => x * y)
  | .iand => x_ii L st (fun x y => x &&& y)
  | .ior => x_ii L st (fun x y => x ||| y)
  | .ixor => x_ii L st (fun x y => x ^^^ y)
  | .ishl => x_ii L st (fun x y => x <<< (y &&& 31))
  | .ishr => x_ii L st (fun x y => x >>> (y &&& 31))
  | .iushr => x_ii L st (fun x y => (x.toUInt32 >>> (y.toUInt32 &&& Int32.toUInt32 31)).toInt32)
  | .ladd => x_ll L st (fun x y => x + y)
  | .land => x_ll L st (fun x y => x &&& y)
  | .lor => x_ll L st (fun x y => x ||| y)
  | .lshl => x_li L st (fun x y => x <<< (y.toInt64 &&& 63))
  | .lshr => x_li L st (fun x y => x >>> (y.toInt64 &&& 63))
  | .lushr => x_li L st (fun x y => (x.toUInt64 >>> (y.toInt64.toUInt64 &&& Int64.toUInt64 63)).toInt64)
  | .i2l => match st with
    | .int x :: r => some (L, .long x.toInt64 :: r)
    | _ => none
  | .l2i => match st with
    | .long x :: r => some (L, .int x.toInt32 :: r)
    | _ => none
  | .i2b => x_i1 L st (fun x => x.toInt8.toInt32)
  | .i2s => x_i1 L st (fun x => x.toInt16.toInt32)
  | .i2c => x_i1 L st (fun x => (x.toUInt32 % 65536).toInt32)
  | .lcmp => match st with
    | .long y :: .long x :: r => some (L, .int (lg_cmp x y) :: r)
    | _ => none
  | .dup => match st with
    | .int x :: r => some (L, .int x :: .int x :: r)
    | .ref x :: r => some (L, .ref x :: .ref x :: r)
    | _ => none
  | .dup2 => match st with
    | .int x :: .ref y :: r => some (L, .int x :: .ref y :: .int x :: .ref y :: r)
    | _ => none
  | .pop => match st with
    | .int _ :: r => some (L, r)
    | _ => none
  | _ => none
theorem x_ldi_at {L L' : List (Option Value)} {st st' : List Value} {i : Nat} (h : x_ldi L st i = some (L', st')) : L' = L ∧ ∃ x, L[i]? = some (some (.int x)) ∧ st' = .int x :: st := by
  unfold x_ldi at h
  split at h
  · next x hx => cases h; exact ⟨rfl, x, hx, rfl⟩
  · cases h
theorem x_ldl_at {L L' : List (Option Value)} {st st' : List Value} {i : Nat} (h : x_ldl L st i = some (L', st')) : L' = L ∧ ∃ x, L[i]? = some (some (.long x)) ∧ st' = .long x :: st := by
  unfold x_ldl at h
  split at h
  · next x hx => cases h; exact ⟨rfl, x, hx, rfl⟩
  · cases h
theorem x_lda_at {L L' : List (Option Value)} {st st' : List Value} {i : Nat} (h : x_lda L st i = some (L', st')) : L' = L ∧ ∃ x, L[i]? = some (some (.ref x)) ∧ st' = .ref x :: st := by
  unfold x_lda at h
  split at h
  · next x hx => cases h; exact ⟨rfl, x, hx, rfl⟩
  · cases h
theorem x_sti_at {L L' : List (Option Value)} {st st' : List Value} {i : Nat} (h : x_sti L st i = some (L', st')) : ∃ x, st = .int x :: st' ∧ x_st1 L i (.int x) = some L' := by
  unfold x_sti at h
  split at h
  · next x r => 
    obtain ⟨a, h1, h2⟩ := Option.map_eq_some_iff.mp h
    cases h2; exact ⟨x, rfl, h1⟩
  · cases h
theorem x_stl_at {L L' : List (Option Value)} {st st' : List Value} {i : Nat} (h : x_stl L st i = some (L', st')) : ∃ x, st = .long x :: st' ∧ x_st2 L i (.long x) = some L' := by
  unfold x_stl at h
  split at h
  · next x r => 
    obtain ⟨a, h1, h2⟩ := Option.map_eq_some_iff.mp h
    cases h2; exact ⟨x, rfl, h1⟩
  · cases h
theorem x_sta_at {L L' : List (Option Value)} {st st' : List Value} {i : Nat} (h : x_sta L st i = some (L', st')) : ∃ x, st = .ref x :: st' ∧ x_st1 L i (.ref x) = some L' := by
  unfold x_sta at h
  split at h
  · next x r => 
    obtain ⟨a, h1, h2⟩ := Option.map_eq_some_iff.mp h
    cases h2; exact ⟨x, rfl, h1⟩
  · cases h
theorem x_st1_lt {L L' : List (Option Value)} {i : Nat} {v : Value} (h : x_st1 L i v = some L') : i < L.length := by
  unfold x_st1 at h
  split at h
  · next hi => exact hi.1
  · cases h
theorem x_st2_lt {L L' : List (Option Value)} {i : Nat} {v : Value} (h : x_st2 L i v = some L') : i + 1 < L.length := by
  unfold x_st2 at h
  split at h
  · next hi => exact hi.1
  · cases h
theorem x_ii_at {L L' : List (Option Value)} {st st' : List Value} {f : Int32 → Int32 → Int32} (h : x_ii L st f = some (L', st')) : L' = L ∧ ∃ x y r, st = .int y :: .int x :: r ∧ st' = .int (f x y) :: r := by
  unfold x_ii at h
  split at h
  · next y x r => cases h; exact ⟨rfl, x, y, r, rfl, rfl⟩
  · cases h
theorem x_ll_at {L L' : List (Option Value)} {st st' : List Value} {f : Int64 → Int64 → Int64} (h : x_ll L st f = some (L', st')) : L' = L ∧ ∃ x y r, st = .long y :: .long x :: r ∧ st' = .long (f x y) :: r := by
  unfold x_ll at h
  split at h
  · next y x r => cases h; exact ⟨rfl, x, y, r, rfl, rfl⟩
  · cases h
theorem x_li_at {L L' : List (Option Value)} {st st' : List Value} {f : Int64 → Int32 → Int64} (h : x_li L st f = some (L', st')) : L' = L ∧ ∃ x y r, st = .int y :: .long x :: r ∧ st' = .long (f x y) :: r := by
  unfold x_li at h
  split at h
  · next y x r => cases h; exact ⟨rfl, x, y, r, rfl, rfl⟩
  · cases h
theorem x_i1_at {L L' : List (Option Value)} {st st' : List Value} {f : Int32 → Int32} (h : x_i1 L st f = some (L', st')) : L' = L ∧ ∃ x r, st = .int x :: r ∧ st' = .int (f x) :: r := by
  unfold x_i1 at h
  split at h
  · next x r => cases h; exact ⟨rfl, x, r, rfl, rfl⟩
  · cases h
set_option maxHeartbeats 4000000 in
theorem wy_ev1 (E : x_E D cy ad M p s m args c) {pc : Nat} {L L' : List (Option Value)} {st st' : List Value} {μ : xMu} {i : Instr} (hd : decode M.2.1 pc = .ok (i, x_sz1 i)) (hev : x_ev1 i L st = some (L', st'))
    (k : Wy p l e R s m args below meth c cells slots Qf D cy ad M (pc + x_sz1 i) L' st' μ) : Wy p l e R s m args below meth c cells slots Qf D cy ad M pc L st μ := by
  obtain ⟨hx, hb, -⟩ := E
  intro ls H locs hl hP hS
  unfold x_ev1 at hev
  split at hev
  case h_1 n => cases hev; exact lv_iconst hx hb hd rfl (k ls H locs hl hP hS)
  case h_2 n => cases hev; exact lv_bipush hx hb hd rfl (k ls H locs hl hP hS)
  case h_3 n => cases hev; exact lv_sipush hx hb hd rfl (k ls H locs hl hP hS)
  case h_4 n => cases hev; exact lv_lconst hx hb hd rfl (k ls H locs hl hP hS)
  case h_5 n => obtain ⟨rfl, x, h1, rfl⟩ := x_ldi_at hev; exact lv_iload_n hx hb hd rfl (hl.2.2.2 _ _ h1) (k ls H locs hl hP hS)
  case h_6 n => obtain ⟨rfl, x, h1, rfl⟩ := x_ldi_at hev; exact lv_iload hx hb hd (hl.2.2.2 _ _ h1) (k ls H locs hl hP hS)
  case h_7 n => obtain ⟨rfl, x, h1, rfl⟩ := x_ldl_at hev; exact lv_lload_n hx hb hd rfl (hl.2.2.2 _ _ h1) (k ls H locs hl hP hS)
  case h_8 n => obtain ⟨rfl, x, h1, rfl⟩ := x_ldl_at hev; exact lv_lload hx hb hd (hl.2.2.2 _ _ h1) (k ls H locs hl hP hS)
  case h_9 n => obtain ⟨rfl, x, h1, rfl⟩ := x_lda_at hev; exact lv_aload_n hx hb hd rfl (hl.2.2.2 _ _ h1) (k ls H locs hl hP hS)
  case h_10 n => obtain ⟨rfl, x, h1, rfl⟩ := x_lda_at hev; exact lv_aload hx hb hd (hl.2.2.2 _ _ h1) (k ls H locs hl hP hS)
  case h_11 n => obtain ⟨x, rfl, h1⟩ := x_sti_at hev; exact lv_istore_n hx hb hd rfl hl.has (by rw [← hl.2.1]; exact x_st1_lt h1) rfl (fun ls' hl' => k ls' H locs (hl.st1 h1 rfl hl') hP hS)
  case h_12 n => obtain ⟨x, rfl, h1⟩ := x_sti_at hev; exact lv_istore hx hb hd hl.has (by rw [← hl.2.1]; exact x_st1_lt h1) rfl (fun ls' hl' => k ls' H locs (hl.st1 h1 rfl hl') hP hS)
  case h_13 n => obtain ⟨x, rfl, h1⟩ := x_stl_at hev; exact lv_lstore_n hx hb hd rfl hl.has (by rw [← hl.2.1]; exact x_st2_lt h1) rfl (fun ls' hl' => k ls' H locs (hl.st2 h1 rfl hl') hP hS)
  case h_14 n => obtain ⟨x, rfl, h1⟩ := x_stl_at hev; exact lv_lstore hx hb hd hl.has (by rw [← hl.2.1]; exact x_st2_lt h1) rfl (fun ls' hl' => k ls' H locs (hl.st2 h1 rfl hl') hP hS)
  case h_15 n => obtain ⟨x, rfl, h1⟩ := x_sta_at hev; exact lv_astore_n hx hb hd rfl hl.has (by rw [← hl.2.1]; exact x_st1_lt h1) rfl (fun ls' hl' => k ls' H locs (hl.st1 h1 rfl hl') hP hS)
  case h_16 n => obtain ⟨x, rfl, h1⟩ := x_sta_at hev; exact lv_astore hx hb hd hl.has (by rw [← hl.2.1]; exact x_st1_lt h1) rfl (fun ls' hl' => k ls' H locs (hl.st1 h1 rfl hl') hP hS)
  case h_17 kk n =>
    split at hev
    · next x hx1 =>
      obtain ⟨a, h1, h2⟩ := Option.map_eq_some_iff.mp hev
      cases h2
      have hm : (kk, x_cv ad (.int x)) ∈ x_lp ad L := x_lp_mem.mpr ⟨_, hx1, rfl⟩
      obtain ⟨j, hj⟩ := List.getElem?_of_mem hm
      exact lv_iinc hx hb hd hl.has hj rfl (by rw [← hl.2.1]; exact x_st1_lt h1) rfl (fun ls' hl' => k ls' H locs (hl.st1 h1 rfl hl') hP hS)
    · cases hev
  case h_18 => obtain ⟨rfl, x, y, r, rfl, rfl⟩ := x_ii_at hev; exact lv_iadd hx hb hd (k ls H locs hl hP hS)
  case h_19 => obtain ⟨rfl, x, y, r, rfl, rfl⟩ := x_ii_at hev; exact lv_isub hx hb hd (k ls H locs hl hP hS)
  case h_20 => obtain ⟨rfl, x, y, r, rfl, rfl⟩ := x_ii_at hev; exact lv_imul hx hb hd (k ls H locs hl hP hS)
  case h_21 => obtain ⟨rfl, x, y, r, rfl, rfl⟩ := x_ii_at hev; exact lv_iand hx hb hd (k ls H locs hl hP hS)
  case h_22 => obtain ⟨rfl, x, y, r, rfl, rfl⟩ := x_ii_at hev; exact lv_ior hx hb hd (k ls H locs hl hP hS)
  case h_23 => obtain ⟨rfl, x, y, r, rfl, rfl⟩ := x_ii_at hev; exact lv_ixor hx hb hd (k ls H locs hl hP hS)
  case h_24 => obtain ⟨rfl, x, y, r, rfl, rfl⟩ := x_ii_at hev; exact lv_ishl hx hb hd (k ls H locs hl hP hS)
  case h_25 => obtain ⟨rfl, x, y, r, rfl, rfl⟩ := x_ii_at hev; exact lv_ishr hx hb hd (k ls H locs hl hP hS)
  case h_26 => obtain ⟨rfl, x, y, r, rfl, rfl⟩ := x_ii_at hev; exact lv_iushr hx hb hd rfl (k ls H locs hl hP hS)
  case h_27 => obtain ⟨rfl, x, y, r, rfl, rfl⟩ := x_ll_at hev; exact lv_ladd hx hb hd (k ls H locs hl hP hS)
  case h_28 => obtain ⟨rfl, x, y, r, rfl, rfl⟩ := x_ll_at hev; exact lv_land hx hb hd (k ls H locs hl hP hS)
  case h_29 => obtain ⟨rfl, x, y, r, rfl, rfl⟩ := x_ll_at hev; exact lv_lor hx hb hd (k ls H locs hl hP hS)
  case h_30 => obtain ⟨rfl, x, y, r, rfl, rfl⟩ := x_li_at hev; exact lv_lshl hx hb hd rfl (k ls H locs hl hP hS)
  case h_31 => obtain ⟨rfl, x, y, r, rfl, rfl⟩ := x_li_at hev; exact lv_lshr hx hb hd rfl (k ls H locs hl hP hS)
  case h_32 => obtain ⟨rfl, x, y, r, rfl, rfl⟩ := x_li_at hev; exact lv_lushr hx hb hd rfl (k ls H locs hl hP hS)
  case h_33 =>
    split at hev
    · cases hev; exact lv_i2l hx hb hd rfl (k ls H locs hl hP hS)
    · cases hev
  case h_34 =>
    split at hev
    · cases hev; exact lv_l2i hx hb hd rfl (k ls H locs hl hP hS)
    · cases hev
  case h_35 => obtain ⟨rfl, x, r, rfl, rfl⟩ := x_i1_at hev; exact lv_i2b hx hb hd rfl (k ls H locs hl hP hS)
  case h_36 => obtain ⟨rfl, x, r, rfl, rfl⟩ := x_i1_at hev; exact lv_i2s hx hb hd rfl (k ls H locs hl hP hS)
  case h_37 => obtain ⟨rfl, x, r, rfl, rfl⟩ := x_i1_at hev; exact lv_i2c hx hb hd rfl (k ls H locs hl hP hS)
  case h_38 =>
    split at hev
    · cases hev; exact W.lcmp hx hb hd (k ls H locs hl hP hS)
    · cases hev
  case h_39 =>
    split at hev
    · cases hev; exact lv_dup hx hb hd rfl (k ls H locs hl hP hS)
    · cases hev; exact lv_dup hx hb hd rfl (k ls H locs hl hP hS)
    · cases hev
  case h_40 =>
    split at hev
    · cases hev; exact lv_dup2_11 hx hb hd rfl rfl (k ls H locs hl hP hS)
    · cases hev
  case h_41 =>
    split at hev
    · cases hev; exact lv_pop hx hb hd rfl (k ls H locs hl hP hS)
    · cases hev
  case h_42 => cases hev
end Wy
end
section
/-! rows with the heap, branches, calls -/
def x_dec (cc : ByteArray) : Nat → List Instr → Bool
  | _, [] => true
  | pc, i :: r => decide (decode cc pc = .ok (i, x_sz1 i)) && x_dec cc (pc + x_sz1 i) r
def x_evs : List Instr → List (Option Value) → List Value → Option (List (Option Value) × List Value)
  | [], L, st => some (L, st)
  | i :: r, L, st => match x_ev1 i L st with
    | some q => x_evs r q.1 q.2
    | none => none
def x_szs : List Instr → Nat
  | [] => 0
  | i :: r => x_sz1 i + x_szs r
def x_rm (d : Nat) : Room := { frames := d, cells := 0, slots := 0, locals := 40 * d }
def x_wsM (M : xM) : List Cond := .code M.1 M.2.1 M.2.2.1 M.2.2.2 :: x_ws
def x_Pc (D : va_G) (cy : Nat → ClassId) (ad : Nat → Nat) (as : List Value) (μ : xMu) : Array Value → State → Prop :=
  va_Pc (as.map (x_cv ad)) (fun U => va_P D vwCl (x_W cy ad μ) U.heap ∧ va_K D vwCl (x_tys cy) U ∧ x_inj ad ∧ x_Ext ad U)
def x_Q (D : va_G) (cy : Nat → ClassId) (ad : Nat → Nat) (r : Option Value) (μ : xMu) : Array Value → State → Outcome → State → Prop :=
  fun _ st o t => o = .returned (r.map (x_cv ad)) ∧ va_P D vwCl (x_W cy ad μ) t.heap ∧ va_F (x_A ad) st t
def x_ok (M : xM) : Prop := Cond.code M.1 M.2.1 M.2.2.1 M.2.2.2 ∈ x_ws ∧ plainName M.1.cls = true ∧ (M.1.cls ≠ "java/lang/invoke/MethodHandle" ∧ M.1.cls ≠ "java/lang/invoke/VarHandle") ∧ Cond.initialized M.1.cls ∈ x_ws ∧ M.2.2.1 ≤ 21
theorem x_blind {D : va_G} {cy : Nat → ClassId} {ad : Nat → Nat} {as : List Value} {μ : xMu} : FrameBlind (x_Pc D cy ad as μ) := by
  intro a U g mk h
  obtain ⟨h1, h2, h3, h4, h5⟩ := h
  exact ⟨h1, h2, va_K.moved (u := U) (U := U.calling g mk a) (Vm.Alike.refl U.vm) h3, h4, h5.same rfl rfl⟩
section Wy2
variable {p : Program} {l : Launch} {e : Env} {R : Room} {s : State} {m : MethodId} {args : Array Value} {below : List Frame} {meth : Method} {c : Code} {cells slots : Nat} {Qf : State → Prop} {D : va_G} {cy : Nat → ClassId} {ad : Nat → Nat} {M : xM} {pc : Nat} {L : List (Option Value)} {st : List Value} {μ : xMu}
theorem wy_blk (E : x_E D cy ad M p s m args c) : ∀ (is : List Instr) {pc pc' : Nat} {L L' : List (Option Value)} {st st' : List Value}, x_dec M.2.1 pc is = true → x_evs is L st = some (L', st') → pc + x_szs is = pc' →
    Wy p l e R s m args below meth c cells slots Qf D cy ad M pc' L' st' μ → Wy p l e R s m args below meth c cells slots Qf D cy ad M pc L st μ
  | [], pc, pc', L, L', st, st', _, h2, h3, k => by
    cases h2
    subst h3
    exact k
  | i :: r, pc, pc', L, L', st, st', h1, h2, h3, k => by
    simp only [x_dec, Bool.and_eq_true, decide_eq_true_eq] at h1
    unfold x_evs at h2
    split at h2
    · next q hq =>
      exact wy_ev1 E h1.1 (L' := q.1) (st' := q.2) hq (wy_blk E r h1.2 h2 (by rw [← h3]; simp only [x_szs]; omega) k)
    · cases h2
theorem wy_goto (E : x_E D cy ad M p s m args c) {off : Int} {tgt : Nat} (hd : decode M.2.1 pc = .ok (.goto off, 3)) (ht : (pc : Int) + off = (tgt : Int)) (k : Wy p l e R s m args below meth c cells slots Qf D cy ad M tgt L st μ) : Wy p l e R s m args below meth c cells slots Qf D cy ad M pc L st μ :=
  fun ls H locs hl hP hS => lv_goto E.1 E.2.1 hd ht (k ls H locs hl hP hS)
theorem wy_if_eq (E : x_E D cy ad M p s m args c) {x : Int32} {off : Int} {tgt : Nat} (hd : decode M.2.1 pc = .ok (.ifCond .eq off, 3)) (ht : (pc : Int) + off = (tgt : Int)) (kt : x = 0 → Wy p l e R s m args below meth c cells slots Qf D cy ad M tgt L st μ) (kf : ¬ x = 0 → Wy p l e R s m args below meth c cells slots Qf D cy ad M (pc + 3) L st μ) : Wy p l e R s m args below meth c cells slots Qf D cy ad M pc L (.int x :: st) μ :=
  fun ls H locs hl hP hS => lv_if_eq E.1 E.2.1 hd ht (fun h => kt h ls H locs hl hP hS) (fun h => kf h ls H locs hl hP hS)
theorem wy_if_ne (E : x_E D cy ad M p s m args c) {x : Int32} {off : Int} {tgt : Nat} (hd : decode M.2.1 pc = .ok (.ifCond .ne off, 3)) (ht : (pc : Int) + off = (tgt : Int)) (kt : ¬ x = 0 → Wy p l e R s m args below meth c cells slots Qf D cy ad M tgt L st μ) (kf : x = 0 → Wy p l e R s m args below meth c cells slots Qf D cy ad M (pc + 3) L st μ) : Wy p l e R s m args below meth c cells slots Qf D cy ad M pc L (.int x :: st) μ :=
  fun ls H locs hl hP hS => lv_if_ne E.1 E.2.1 hd ht (fun h => kt h ls H locs hl hP hS) (fun h => kf h ls H locs hl hP hS)
theorem wy_if_lt (E : x_E D cy ad M p s m args c) {x : Int32} {off : Int} {tgt : Nat} (hd : decode M.2.1 pc = .ok (.ifCond .lt off, 3)) (ht : (pc : Int) + off = (tgt : Int)) (kt : x < 0 → Wy p l e R s m args below meth c cells slots Qf D cy ad M tgt L st μ) (kf : ¬ x < 0 → Wy p l e R s m args below meth c cells slots Qf D cy ad M (pc + 3) L st μ) : Wy p l e R s m args below meth c cells slots Qf D cy ad M pc L (.int x :: st) μ :=
  fun ls H locs hl hP hS => lv_if_lt E.1 E.2.1 hd ht (fun h => kt h ls H locs hl hP hS) (fun h => kf h ls H locs hl hP hS)
theorem wy_if_ge (E : x_E D cy ad M p s m args c) {x : Int32} {off : Int} {tgt : Nat} (hd : decode M.2.1 pc = .ok (.ifCond .ge off, 3)) (ht : (pc : Int) + off = (tgt : Int)) (kt : 0 ≤ x → Wy p l e R s m args below meth c cells slots Qf D cy ad M tgt L st μ) (kf : ¬ 0 ≤ x → Wy p l e R s m args below meth c cells slots Qf D cy ad M (pc + 3) L st μ) : Wy p l e R s m args below meth c cells slots Qf D cy ad M pc L (.int x :: st) μ :=
  fun ls H locs hl hP hS => lv_if_ge E.1 E.2.1 hd ht (fun h => kt h ls H locs hl hP hS) (fun h => kf h ls H locs hl hP hS)
theorem wy_if_gt (E : x_E D cy ad M p s m args c) {x : Int32} {off : Int} {tgt : Nat} (hd : decode M.2.1 pc = .ok (.ifCond .gt off, 3)) (ht : (pc : Int) + off = (tgt : Int)) (kt : 0 < x → Wy p l e R s m args below meth c cells slots Qf D cy ad M tgt L st μ) (kf : ¬ 0 < x → Wy p l e R s m args below meth c cells slots Qf D cy ad M (pc + 3) L st μ) : Wy p l e R s m args below meth c cells slots Qf D cy ad M pc L (.int x :: st) μ :=
  fun ls H locs hl hP hS => lv_if_gt E.1 E.2.1 hd ht (fun h => kt h ls H locs hl hP hS) (fun h => kf h ls H locs hl hP hS)
theorem wy_if_le (E : x_E D cy ad M p s m args c) {x : Int32} {off : Int} {tgt : Nat} (hd : decode M.2.1 pc = .ok (.ifCond .le off, 3)) (ht : (pc : Int) + off = (tgt : Int)) (kt : x ≤ 0 → Wy p l e R s m args below meth c cells slots Qf D cy ad M tgt L st μ) (kf : ¬ x ≤ 0 → Wy p l e R s m args below meth c cells slots Qf D cy ad M (pc + 3) L st μ) : Wy p l e R s m args below meth c cells slots Qf D cy ad M pc L (.int x :: st) μ :=
  fun ls H locs hl hP hS => lv_if_le E.1 E.2.1 hd ht (fun h => kt h ls H locs hl hP hS) (fun h => kf h ls H locs hl hP hS)
theorem wy_ic_eq (E : x_E D cy ad M p s m args c) {x y : Int32} {off : Int} {tgt : Nat} (hd : decode M.2.1 pc = .ok (.if_icmp .eq off, 3)) (ht : (pc : Int) + off = (tgt : Int)) (kt : x = y → Wy p l e R s m args below meth c cells slots Qf D cy ad M tgt L st μ) (kf : ¬ x = y → Wy p l e R s m args below meth c cells slots Qf D cy ad M (pc + 3) L st μ) : Wy p l e R s m args below meth c cells slots Qf D cy ad M pc L (.int y :: .int x :: st) μ :=
  fun ls H locs hl hP hS => lv_icmp_eq E.1 E.2.1 hd ht (fun h => kt h ls H locs hl hP hS) (fun h => kf h ls H locs hl hP hS)
theorem wy_ic_ne (E : x_E D cy ad M p s m args c) {x y : Int32} {off : Int} {tgt : Nat} (hd : decode M.2.1 pc = .ok (.if_icmp .ne off, 3)) (ht : (pc : Int) + off = (tgt : Int)) (kt : ¬ x = y → Wy p l e R s m args below meth c cells slots Qf D cy ad M tgt L st μ) (kf : x = y → Wy p l e R s m args below meth c cells slots Qf D cy ad M (pc + 3) L st μ) : Wy p l e R s m args below meth c cells slots Qf D cy ad M pc L (.int y :: .int x :: st) μ :=
  fun ls H locs hl hP hS => lv_icmp_ne E.1 E.2.1 hd ht (fun h => kt h ls H locs hl hP hS) (fun h => kf h ls H locs hl hP hS)
theorem wy_ic_lt (E : x_E D cy ad M p s m args c) {x y : Int32} {off : Int} {tgt : Nat} (hd : decode M.2.1 pc = .ok (.if_icmp .lt off, 3)) (ht : (pc : Int) + off = (tgt : Int)) (kt : x < y → Wy p l e R s m args below meth c cells slots Qf D cy ad M tgt L st μ) (kf : ¬ x < y → Wy p l e R s m args below meth c cells slots Qf D cy ad M (pc + 3) L st μ) : Wy p l e R s m args below meth c cells slots Qf D cy ad M pc L (.int y :: .int x :: st) μ :=
  fun ls H locs hl hP hS => lv_icmp_lt E.1 E.2.1 hd ht (fun h => kt h ls H locs hl hP hS) (fun h => kf h ls H locs hl hP hS)
theorem wy_ic_ge (E : x_E D cy ad M p s m args c) {x y : Int32} {off : Int} {tgt : Nat} (hd : decode M.2.1 pc = .ok (.if_icmp .ge off, 3)) (ht : (pc : Int) + off = (tgt : Int)) (kt : y ≤ x → Wy p l e R s m args below meth c cells slots Qf D cy ad M tgt L st μ) (kf : ¬ y ≤ x → Wy p l e R s m args below meth c cells slots Qf D cy ad M (pc + 3) L st μ) : Wy p l e R s m args below meth c cells slots Qf D cy ad M pc L (.int y :: .int x :: st) μ :=
  fun ls H locs hl hP hS => lv_icmp_ge E.1 E.2.1 hd ht (fun h => kt h ls H locs hl hP hS) (fun h => kf h ls H locs hl hP hS)
theorem wy_ic_gt (E : x_E D cy ad M p s m args c) {x y : Int32} {off : Int} {tgt : Nat} (hd : decode M.2.1 pc = .ok (.if_icmp .gt off, 3)) (ht : (pc : Int) + off = (tgt : Int)) (kt : y < x → Wy p l e R s m args below meth c cells slots Qf D cy ad M tgt L st μ) (kf : ¬ y < x → Wy p l e R s m args below meth c cells slots Qf D cy ad M (pc + 3) L st μ) : Wy p l e R s m args below meth c cells slots Qf D cy ad M pc L (.int y :: .int x :: st) μ :=
  fun ls H locs hl hP hS => lv_icmp_gt E.1 E.2.1 hd ht (fun h => kt h ls H locs hl hP hS) (fun h => kf h ls H locs hl hP hS)
theorem wy_ic_le (E : x_E D cy ad M p s m args c) {x y : Int32} {off : Int} {tgt : Nat} (hd : decode M.2.1 pc = .ok (.if_icmp .le off, 3)) (ht : (pc : Int) + off = (tgt : Int)) (kt : x ≤ y → Wy p l e R s m args below meth c cells slots Qf D cy ad M tgt L st μ) (kf : ¬ x ≤ y → Wy p l e R s m args below meth c cells slots Qf D cy ad M (pc + 3) L st μ) : Wy p l e R s m args below meth c cells slots Qf D cy ad M pc L (.int y :: .int x :: st) μ :=
  fun ls H locs hl hP hS => lv_icmp_le E.1 E.2.1 hd ht (fun h => kt h ls H locs hl hP hS) (fun h => kf h ls H locs hl hP hS)
theorem wy_idiv (E : x_E D cy ad M p s m args c) {x y : Int32} (hd : decode M.2.1 pc = .ok (.idiv, 1)) (hne : ¬ y = 0) (k : Wy p l e R s m args below meth c cells slots Qf D cy ad M (pc + 1) L (.int (x / y) :: st) μ) : Wy p l e R s m args below meth c cells slots Qf D cy ad M pc L (.int y :: .int x :: st) μ :=
  fun ls H locs hl hP hS => lv_idiv E.1 E.2.1 hd hne (k ls H locs hl hP hS)
theorem wy_irem (E : x_E D cy ad M p s m args c) {x y : Int32} (hd : decode M.2.1 pc = .ok (.irem, 1)) (hne : ¬ y = 0) (k : Wy p l e R s m args below meth c cells slots Qf D cy ad M (pc + 1) L (.int (x - x / y * y) :: st) μ) : Wy p l e R s m args below meth c cells slots Qf D cy ad M pc L (.int y :: .int x :: st) μ :=
  fun ls H locs hl hP hS => lv_irem E.1 E.2.1 hd hne (k ls H locs hl hP hS)
theorem wy_ldc (E : x_E D cy ad M p s m args c) {idx : Nat} {v : Int32} (hw : Cond.constant M.1.cls idx v ∈ x_ws) (hd : decode M.2.1 pc = .ok (.ldc idx, 2)) (k : Wy p l e R s m args below meth c cells slots Qf D cy ad M (pc + 2) L (.int v :: st) μ) : Wy p l e R s m args below meth c cells slots Qf D cy ad M pc L st μ :=
  fun ls H locs hl hP hS => lv_ldc E.1 E.2.1 E.2.2.2.1 (E.2.2.2.2.1 _ hw) hd (k ls H locs hl hP hS)
theorem wy_ldcw (E : x_E D cy ad M p s m args c) {idx : Nat} {v : Int32} (hw : Cond.constant M.1.cls idx v ∈ x_ws) (hd : decode M.2.1 pc = .ok (.ldc_w idx, 3)) (k : Wy p l e R s m args below meth c cells slots Qf D cy ad M (pc + 3) L (.int v :: st) μ) : Wy p l e R s m args below meth c cells slots Qf D cy ad M pc L st μ :=
  fun ls H locs hl hP hS => lv_ldcw E.1 E.2.1 E.2.2.2.1 (E.2.2.2.2.1 _ hw) hd (k ls H locs hl hP hS)
theorem wy_ldc2 (E : x_E D cy ad M p s m args c) {idx : Nat} {v : Int64} (hw : Cond.constantLong M.1.cls idx v ∈ x_ws) (hd : decode M.2.1 pc = .ok (.ldc2_w idx, 3)) (k : Wy p l e R s m args below meth c cells slots Qf D cy ad M (pc + 3) L (.long v :: st) μ) : Wy p l e R s m args below meth c cells slots Qf D cy ad M pc L st μ :=
  fun ls H locs hl hP hS => lv_ldc2 E.1 E.2.1 E.2.2.2.1 (E.2.2.2.2.1 _ hw) hd (k ls H locs hl hP hS)
theorem wy_ldcs (E : x_E D cy ad M p s m args c) {i : Nat} (hi : i < 8) (ho : M.1.cls = "WakingLayers$Reader") (hd : decode M.2.1 pc = .ok (.ldc (x_txI.getD i 0), 2)) (k : Wy p l e R s m args below meth c cells slots Qf D cy ad M (pc + 2) L (.ref (910 + i) :: st) μ) : Wy p l e R s m args below meth c cells slots Qf D cy ad M pc L st μ := by
  intro ls H locs hl hP hS
  obtain ⟨hx, hb, hml, hown, hts, hK, hinj, hE⟩ := E
  exact va_ldcS hx hb (by rw [← ho]; exact hown) (hE.2.2.2.2.1 i hi) hd (k ls H locs hl hP hS)
/-- a field of class ci by the entry idx of the own class's pool -/
def x_FF (own : String) (idx ci j : Nat) (C : String) (T : u_T) (N : Nat) : Prop := vwCl[ci]? = some (C, T, N) ∧ ci < 13 ∧ (∀ w ∈ u_ws C T N, w ∈ x_ws) ∧ j < N ∧ Cond.fieldLink own idx C (T j).2.1 (T j).2.2.1 ∈ x_ws ∧ (T j).1 = C
theorem x_fs_at {ad : Nat → Nat} {μ : xMu} {k j : Nat} (h : j < x_sz k) : ((List.range (x_sz k)).map (fun j => x_cv ad (x_fv μ k j)))[j]? = some (x_cv ad (x_fv μ k j)) := by
  simp [h]
theorem x_nfC : ∀ ci, ci < 13 → ∀ q : vw_C, vwCl[ci]? = some q → x_nf ci = q.2.2 := by
  intro ci h q hq
  match ci, h, hq with
  | 0, _, hq => cases hq; rfl
  | 1, _, hq => cases hq; rfl
  | 2, _, hq => cases hq; rfl
  | 3, _, hq => cases hq; rfl
  | 4, _, hq => cases hq; rfl
  | 5, _, hq => cases hq; rfl
  | 6, _, hq => cases hq; rfl
  | 7, _, hq => cases hq; rfl
  | 8, _, hq => cases hq; rfl
  | 9, _, hq => cases hq; rfl
  | 10, _, hq => cases hq; rfl
  | 11, _, hq => cases hq; rfl
  | 12, _, hq => cases hq; rfl
  | n + 13, h, _ => omega
theorem wy_get (E : x_E D cy ad M p s m args c) {k idx ci j N : Nat} {C : String} {T : u_T} (hk : x_is k ci) (F : x_FF M.1.cls idx ci j C T N) (hd : decode M.2.1 pc = .ok (.getfield idx, 3)) (kk : Wy p l e R s m args below meth c cells slots Qf D cy ad M (pc + 3) L (x_fv μ k j :: st) μ) : Wy p l e R s m args below meth c cells slots Qf D cy ad M pc L (.ref k :: st) μ := by
  intro ls H locs hl hP hS
  obtain ⟨hx, hb, hml, hown, hts, hK, hinj, hE⟩ := E
  obtain ⟨hc, hci, hin, hj, hlink, hC⟩ := F
  have hsz : x_sz k = N := by rw [x_szf k hk.1 (by rw [hk.2]; exact hci), hk.2, x_nfC ci hci _ hc]
  have he := x_W_at (cy := cy) (ad := ad) (μ := μ) hk.1
  rw [x_cell_o hk.2 hci] at he
  exact va_get (ref := C) hx hb hts hin hown hK hP k he hc j hj (hts _ hlink) (fun x h => by rw [← hC]; exact h) (x_fs_at (by rw [hsz]; exact hj)) hd (kk ls H locs hl hP hS)
/-- what the class's table says of a field that may be written -/
def x_FP (ci j : Nat) (T : u_T) (N : Nat) (ty0 : Nat → FieldType) (ty : FieldType) : Prop := (∀ k, k < N → parseFieldDescriptor (T k).2.2.1 = some (ty0 k)) ∧ (∀ a, a < N → ∀ b, b < N → a ≠ b → (T a).2.1 ≠ (T b).2.1) ∧ (T j).2.2.2 = false ∧ parseFieldDescriptor (T j).2.2.1 = some ty ∧ x_fr ci j = false
theorem wy_put (E : x_E D cy ad M p s m args c) {k idx ci j N : Nat} {C : String} {T : u_T} {ty0 : Nat → FieldType} {ty : FieldType} {v : Int32} (hk : x_is k ci) (F : x_FF M.1.cls idx ci j C T N) (P : x_FP ci j T N ty0 ty) (hn : narrow ty (.int v) = .int v) (hfit : fits ty (.int v) = true) (hd : decode M.2.1 pc = .ok (.putfield idx, 3)) (kk : Wy p l e R s m args below meth c cells slots Qf D cy ad M (pc + 3) L st (x_wr μ k j v)) : Wy p l e R s m args below meth c cells slots Qf D cy ad M pc L (.int v :: .ref k :: st) μ := by
  intro ls H locs hl hP hS
  obtain ⟨hx, hb, hml, hown, hts, hK, hinj, hE⟩ := E
  obtain ⟨hc, hci, hin, hj, hlink, hC⟩ := F
  obtain ⟨hty, hnm, hfin, hpd, hfr⟩ := P
  have hsz : x_sz k = N := by rw [x_szf k hk.1 (by rw [hk.2]; exact hci), hk.2, x_nfC ci hci _ hc]
  have he := x_W_at (cy := cy) (ad := ad) (μ := μ) hk.1
  rw [x_cell_o hk.2 hci] at he
  refine va_put (v := .int v) (ref := C) hx hb hts hin ty0 hty hnm hown hK hP (x_D hinj) hS k he hc j hj (hts _ hlink) (fun x h => by rw [← hC]; exact h) hfin hpd hn hfit (by simp [hsz]; exact hj) hd (fun H1 locs1 hP1 _ hS1 => ?_)
  rw [x_W_set (x_put_cell hk.2 hci hfr) (fun a h => x_cell_ne h)] at hP1
  exact kk ls H1 locs1 hl hP1 hS1
theorem wy_iald (E : x_E D cy ad M p s m args c) {k : Nat} {i : Int32} (hk : x_is k 13) (hin : vp_in i (x_sz k)) (hd : decode M.2.1 pc = .ok (.iaload, 1)) (kk : Wy p l e R s m args below meth c cells slots Qf D cy ad M (pc + 1) L (.int (μ k i.toNatClampNeg) :: st) μ) : Wy p l e R s m args below meth c cells slots Qf D cy ad M pc L (.int i :: .ref k :: st) μ := by
  intro ls H locs hl hP hS
  obtain ⟨hx, hb, hml, hown, hts, hK, hinj, hE⟩ := E
  have he := x_W_at (cy := cy) (ad := ad) (μ := μ) hk.1
  rw [x_cell_i hk.2] at he
  exact va_iald hx hb hK hP k 0 he rfl hin hd (kk ls H locs hl hP hS)
theorem wy_iast (E : x_E D cy ad M p s m args c) {k : Nat} {i v : Int32} (hk : x_is k 13) (hin : vp_in i (x_sz k)) (hd : decode M.2.1 pc = .ok (.iastore, 1)) (kk : Wy p l e R s m args below meth c cells slots Qf D cy ad M (pc + 1) L st (x_wr μ k i.toNatClampNeg v)) : Wy p l e R s m args below meth c cells slots Qf D cy ad M pc L (.int v :: .int i :: .ref k :: st) μ := by
  intro ls H locs hl hP hS
  obtain ⟨hx, hb, hml, hown, hts, hK, hinj, hE⟩ := E
  have he := x_W_at (cy := cy) (ad := ad) (μ := μ) hk.1
  rw [x_cell_i hk.2] at he
  refine va_iast hx hb hK hP (x_D hinj) hS k 0 he rfl hin hd (fun H1 locs1 hP1 _ hS1 => ?_)
  rw [x_W_set (μ' := x_wr μ k i.toNatClampNeg v) (by rw [x_cell_i hk.2, x_wr_row]) (fun a h => x_cell_ne h)] at hP1
  exact kk ls H1 locs1 hl hP1 hS1
theorem wy_zald (E : x_E D cy ad M p s m args c) {k : Nat} {i : Int32} (hk : x_is k 14) (hin : vp_in i (x_sz k)) (hd : decode M.2.1 pc = .ok (.baload, 1)) (kk : Wy p l e R s m args below meth c cells slots Qf D cy ad M (pc + 1) L (.int (μ k i.toNatClampNeg) :: st) μ) : Wy p l e R s m args below meth c cells slots Qf D cy ad M pc L (.int i :: .ref k :: st) μ := by
  intro ls H locs hl hP hS
  obtain ⟨hx, hb, hml, hown, hts, hK, hinj, hE⟩ := E
  have he := x_W_at (cy := cy) (ad := ad) (μ := μ) hk.1
  rw [x_cell_z hk.2] at he
  exact va_zald hx hb hK hP k 1 he rfl hin hd (kk ls H locs hl hP hS)
theorem wy_zast (E : x_E D cy ad M p s m args c) {k : Nat} {i v : Int32} (hk : x_is k 14) (hin : vp_in i (x_sz k)) (hd : decode M.2.1 pc = .ok (.bastore, 1)) (kk : Wy p l e R s m args below meth c cells slots Qf D cy ad M (pc + 1) L st (x_wr μ k i.toNatClampNeg (vp_nar .boolean v))) : Wy p l e R s m args below meth c cells slots Qf D cy ad M pc L (.int v :: .int i :: .ref k :: st) μ := by
  intro ls H locs hl hP hS
  obtain ⟨hx, hb, hml, hown, hts, hK, hinj, hE⟩ := E
  have he := x_W_at (cy := cy) (ad := ad) (μ := μ) hk.1
  rw [x_cell_z hk.2] at he
  refine va_zast hx hb hK hP (x_D hinj) hS k 1 he rfl hin hd (fun H1 locs1 hP1 _ hS1 => ?_)
  rw [x_W_set (μ' := x_wr μ k i.toNatClampNeg (vp_nar .boolean v)) (by rw [x_cell_z hk.2, x_wr_row]) (fun a h => x_cell_ne h)] at hP1
  exact kk ls H1 locs1 hl hP1 hS1
theorem x_tyr {cy : Nat → ClassId} {cx : Nat} (h : ¬ cx < 15) (h2 : cx < 18) : ∃ (t : Nat) (ty : FieldType), (x_tys cy)[t]? = some (cy cx, ty) ∧ ty.isReference = true := by
  rcases (show cx = 15 ∨ cx = 16 ∨ cx = 17 by omega) with rfl | rfl | rfl
  · exact ⟨2, _, rfl, rfl⟩
  · exact ⟨3, _, rfl, rfl⟩
  · exact ⟨4, _, rfl, rfl⟩
theorem wy_aald (E : x_E D cy ad M p s m args c) {k cx r : Nat} {i : Int32} (hk : x_is k cx) (hcx : ¬ cx < 15) (hin : vp_in i (x_sz k)) (hr : x_rf k i.toNatClampNeg = some r) (hd : decode M.2.1 pc = .ok (.aaload, 1)) (kk : Wy p l e R s m args below meth c cells slots Qf D cy ad M (pc + 1) L (.ref r :: st) μ) : Wy p l e R s m args below meth c cells slots Qf D cy ad M pc L (.int i :: .ref k :: st) μ := by
  intro ls H locs hl hP hS
  obtain ⟨hx, hb, hml, hown, hts, hK, hinj, hE⟩ := E
  have he := x_W_at (cy := cy) (ad := ad) (μ := μ) hk.1
  rw [x_cell_r hk.2 hcx] at he
  have hlt : i.toNatClampNeg < x_sz k := Nat.not_le.mp fun q => hin (Or.inr q)
  obtain ⟨t0, ty, ht, hty⟩ := x_tyr (cy := cy) hcx (by have := x_kd18 k hk.1; rw [hk.2] at this; exact this)
  refine W.aald (v := .ref (ad r)) (ty := ty) hx hb (hP k _ he) ((hK.2 t0 _ ht).1 (x_sz k) (fun j => va_rf ((x_rf k j).map ad))) hty (fun q => by cases q) (by show ¬ (i < 0 ∨ (arrV _ _ _).slots.size ≤ _); rw [arrV_size]; exact hin) (by show (arrV _ _ _).slots[_]? = _; rw [arrV_read _ _ hlt]; dsimp only; rw [hr]; rfl) rfl rfl hd (kk ls H locs hl hP hS)
theorem wy_abo (E : x_E D cy ad M p s m args c) {idx : Nat} (hw : Cond.fieldLink M.1.cls idx "WakingLayers$Asker" "ABOVE" "[I" ∈ x_ws) (hd : decode M.2.1 pc = .ok (.getstatic idx, 3)) (kk : Wy p l e R s m args below meth c cells slots Qf D cy ad M (pc + 3) L (.ref 900 :: st) μ) : Wy p l e R s m args below meth c cells slots Qf D cy ad M pc L st μ := by
  intro ls H locs hl hP hS
  obtain ⟨hx, hb, hml, hown, hts, hK, hinj, hE⟩ := E
  exact va_gets (ref := "WakingLayers$Asker") hx hb hE.1 hS hown (hts _ hw) (fun x h => h) hd (kk ls H locs hl hP hS)
theorem wy_abolen (E : x_E D cy ad M p s m args c) (hd : decode M.2.1 pc = .ok (.arraylength, 1)) (kk : Wy p l e R s m args below meth c cells slots Qf D cy ad M (pc + 1) L (.int 6 :: st) μ) : Wy p l e R s m args below meth c cells slots Qf D cy ad M pc L (.ref 900 :: st) μ := by
  intro ls H locs hl hP hS
  obtain ⟨hx, hb, hml, hown, hts, hK, hinj, hE⟩ := E
  exact va_tlen hx hb hE.2.1 hS rfl hd (kk ls H locs hl hP hS)
theorem wy_abold (E : x_E D cy ad M p s m args c) {i : Int32} (hin : vp_in i 6) (hd : decode M.2.1 pc = .ok (.iaload, 1)) (kk : Wy p l e R s m args below meth c cells slots Qf D cy ad M (pc + 1) L (.int (x_aboL.getD i.toNatClampNeg 0) :: st) μ) : Wy p l e R s m args below meth c cells slots Qf D cy ad M pc L (.int i :: .ref 900 :: st) μ := by
  intro ls H locs hl hP hS
  obtain ⟨hx, hb, hml, hown, hts, hK, hinj, hE⟩ := E
  exact va_ti hx hb hE.2.1 hS hin rfl hd (kk ls H locs hl hP hS)
/-! calls -/
theorem wy_back (E : x_E D cy ad M p s m args c) {r : Option Value} {μ' : xMu} {rest st0 : List Value} {a : Array Value} {ls : Array Slot} {H : Heap} {locs : List Loc} (hl : x_LR ad ls M.2.2.1 L) (hS : va_S (x_A ad) s.heap H locs)
    (hr : va_Run p l e R s m args below meth c H locs cells slots 0 0 (F0 m pc ls st0) (rest.map (x_cv ad)) (x_Q D cy ad r μ' a) (x_A ad))
    (kk : Wy p l e R s m args below meth c cells slots Qf D cy ad M (pc + 3) L (r.toList ++ rest) μ') : W p l e R s m args below meth c H locs cells slots Qf (F0 m pc ls st0) := by
  intro T hT X
  obtain ⟨v, st₀, t, T', Lc, h0, X', hL, e1, e2, ⟨hv, hP1, hz, hk⟩, go⟩ := hr T hT X
  cases hv
  rw [h0] at hz hk
  have hS' : va_S (x_A ad) s.heap T'.heap (locs ++ Lc) := by
    refine ⟨Nat.le_trans hS.1 (by rw [e1]; exact hz), fun q h1 h2 => ?_, fun q hq => ?_⟩
    · rw [e1, hk q (Nat.lt_of_lt_of_le h1 hS.1) h2]
      exact hS.2.1 q h1 h2
    · rcases List.mem_append.mp hq with h | h
      · exact hS.2.2 q h
      · exact hL q h
  obtain ⟨t2, a1, b1⟩ := kk ls T'.heap (locs ++ Lc) hl (by rw [e1]; exact hP1) hS' T' rfl X'
  refine ⟨t2, go t2 ?_, b1⟩
  have e3 : (r.toList ++ rest).map (x_cv ad) = (r.map (x_cv ad)).toList ++ rest.map (x_cv ad) := by cases r <;> simp
  rw [e3] at a1
  exact a1
theorem x_rest (ad : Nat → Nat) (rest : List Value) : ((rest.map (x_cv ad)).map fun v => v.category).sum = (rest.map fun v => v.category).sum := by
  rw [List.map_map]
  congr 1
  apply List.map_congr_left
  intro v _
  exact x_cv_cat ad v
theorem x_goodM {M' : xM} (h : Cond.code M'.1 M'.2.1 M'.2.2.1 M'.2.2.2 ∈ x_ws) : GoodIn x_ws (x_wsM M') := by
  intro w hw
  rcases List.mem_cons.mp hw with rfl | hw
  · exact ⟨h, good_of_word (List.mem_filter.mp h).2⟩
  · exact ⟨hw, good_of_word (List.mem_filter.mp hw).2⟩
/-- what the tables say of a call of an instance method -/
def x_CV (own : String) (idx : Nat) (M' : xM) (n : Nat) : Prop := Cond.methodLink own idx M'.1 ∈ x_ws ∧ Cond.instanceMethod M'.1 ∈ x_ws ∧ Cond.selects M'.1.cls M'.1 M'.1 ∈ x_ws ∧ (parseMethodDescriptor M'.1.desc).map (fun d => d.parameters.length) = some n ∧ x_ok M'
def x_CS (own : String) (idx : Nat) (M' : xM) (n : Nat) : Prop := Cond.methodLink own idx M'.1 ∈ x_ws ∧ Cond.static M'.1 ∈ x_ws ∧ (parseMethodDescriptor M'.1.desc).map (fun d => d.parameters.length) = some n ∧ x_ok M'
theorem wy_callV (E : x_E D cy ad M p s m args c) {M' : xM} {d idx k ci N n : Nat} {T : u_T} {As rest : List Value} {r : Option Value} {μ' : xMu} (hR : d + 1 ≤ R.frames ∧ 40 * (d + 1) ≤ R.locals) (hcs : cells ≤ R.cells ∧ slots ≤ R.slots)
    (hk : x_is k ci) (hci : ci < 13) (hc : vwCl[ci]? = some (M'.1.cls, T, N)) (C : x_CV M.1.cls idx M' n) (hn : As.length = n) (hrest : (rest.map fun v => v.category).sum ≤ 8) (hst : st = As.reverse ++ .ref k :: rest) (hd : decode M.2.1 pc = .ok (.invokevirtual idx, 3))
    (hM : Met l M'.1 (x_wsM M') (x_rm d) (x_Pc D cy ad (.ref k :: As) μ) (x_Q D cy ad r μ') 0 0 (x_A ad)) (kk : Wy p l e R s m args below meth c cells slots Qf D cy ad M (pc + 3) L (r.toList ++ rest) μ') : Wy p l e R s m args below meth c cells slots Qf D cy ad M pc L st μ := by
  intro ls H locs hl hP hS
  obtain ⟨hx, hb, hml, hown, hts, hK, hinj, hE⟩ := id E
  obtain ⟨hlink, hinst, hsel, hpd, hcode, hpl, hnm, hini, hnL⟩ := C
  have he := x_W_at (cy := cy) (ad := ad) (μ := μ) hk.1
  rw [x_cell_o hk.2 hci] at he
  subst hst
  refine wy_back (r := r) (μ' := μ') E hl hS (va_runV (cc := M.2.1) (nL := M.2.2.1) (As := As.map (x_cv ad)) (n := n) (b := ad k) (C := M'.1.cls) (Ts := x_ws) (own := M.1.cls) ⟨hx, hb, hml, hown, hts⟩ hM
    (⟨callB_of n hts (x_goodM hcode) rfl rfl rfl (hts _ hini) (hts _ hlink) ⟨hnm.1, hnm.2, hpd⟩ ⟨hR.1, by show 8 + (M'.2.2.1 + 11) + 40 * d ≤ R.locals; omega⟩, hts _ hinst, hts _ hsel⟩)
    ⟨x_blind, va_recv hK hP hc he, fun U hU hW => ⟨rfl, by rw [hU]; exact hP, va_K.moved hW.alike hK, hinj, hE.go hS hU hW⟩⟩ rfl (by rw [List.length_map]; exact hn) hl.1 (by simp [x_cv]) (lv_room (by rw [x_rest]; exact hrest)) hd hcs) kk
theorem wy_callS (E : x_E D cy ad M p s m args c) {M' : xM} {d idx n : Nat} {As rest : List Value} {r : Option Value} {μ' : xMu} (hR : d + 1 ≤ R.frames ∧ 40 * (d + 1) ≤ R.locals) (hcs : cells ≤ R.cells ∧ slots ≤ R.slots)
    (C : x_CS M.1.cls idx M' n) (hn : As.length = n) (hrest : (rest.map fun v => v.category).sum ≤ 8) (hst : st = As.reverse ++ rest) (hd : decode M.2.1 pc = .ok (.invokestatic idx, 3))
    (hM : Met l M'.1 (x_wsM M') (x_rm d) (x_Pc D cy ad As μ) (x_Q D cy ad r μ') 0 0 (x_A ad)) (kk : Wy p l e R s m args below meth c cells slots Qf D cy ad M (pc + 3) L (r.toList ++ rest) μ') : Wy p l e R s m args below meth c cells slots Qf D cy ad M pc L st μ := by
  intro ls H locs hl hP hS
  obtain ⟨hx, hb, hml, hown, hts, hK, hinj, hE⟩ := id E
  obtain ⟨hlink, hstat, hpd, hcode, hpl, hnm, hini, hnL⟩ := C
  subst hst
  refine wy_back (r := r) (μ' := μ') E hl hS (va_runS (cc := M.2.1) (nL := M.2.2.1) (As := As.map (x_cv ad)) (n := n) (Ts := x_ws) (own := M.1.cls) ⟨hx, hb, hml, hown, hts⟩ hM
    (⟨callB_of n hts (x_goodM hcode) rfl rfl rfl (hts _ hini) (hts _ hlink) ⟨hnm.1, hnm.2, hpd⟩ ⟨hR.1, by show 8 + (M'.2.2.1 + 11) + 40 * d ≤ R.locals; omega⟩, hts _ hstat⟩)
    ⟨x_blind, fun U hU hW => ⟨rfl, by rw [hU]; exact hP, va_K.moved hW.alike hK, hinj, hE.go hS hU hW⟩⟩ rfl (by rw [List.length_map]; exact hn) hl.1 (by simp) (lv_room (by rw [x_rest]; exact hrest)) hd hcs) kk
end Wy2
end
section
/-! pure programs over the memory, and what a method must do to be one -/
def x_isb (k c : Nat) : Bool := decide (k < x_N) && (x_kd k == c)
def x_inb (i : Int32) (n : Nat) : Bool := !(decide (i < 0)) && decide (i.toNatClampNeg < n)
def x_zok (v : Int32) : Bool := v == 0 || v == 1
def x_cok (v : Int32) : Bool := decide (0 ≤ v) && decide (v ≤ 65535)
def x_chk {α : Type} (k c : Nat) (o : Option α) : Option α := bif x_isb k c then o else none
def x_ald {α : Type} (μ : xMu) (k n : Nat) (i : Int32) (f : Int32 → Option α) : Option α := bif x_inb i n then f (μ k i.toNatClampNeg) else none
def x_ast {α : Type} (μ : xMu) (k n : Nat) (i v : Int32) (f : xMu → Option α) : Option α := bif x_inb i n then f (x_wr μ k i.toNatClampNeg v) else none
def x_put {α : Type} (μ : xMu) (k j : Nat) (v : Int32) (f : xMu → Option α) : Option α := f (x_wr μ k j v)
def x_rld {α : Type} (k n : Nat) (i : Int32) (f : Nat → Option α) : Option α := bif x_inb i n then (match x_rf k i.toNatClampNeg with
  | some r => f r
  | none => none) else none
def x_rfd {α : Type} (k j : Nat) (f : Nat → Option α) : Option α := match x_rf k j with
  | some r => f r
  | none => none
def x_tst {α : Type} (b : Bool) (o : Option α) : Option α := bif b then o else none
def x_abo {α : Type} (i : Int32) (f : Int32 → Option α) : Option α := bif x_inb i 6 then f (x_aboL.getD i.toNatClampNeg 0) else none
def x_sw {α : Type} (x lo : Int32) : List (Option α) → Option α → Option α
  | [], d => d
  | a :: r, d => if x = lo then a else x_sw x (lo + 1) r d
theorem x_is_of {k c : Nat} (h : x_isb k c = true) : x_is k c := by
  simp only [x_isb, Bool.and_eq_true, decide_eq_true_eq, beq_iff_eq] at h
  exact h
theorem x_in_of {i : Int32} {n : Nat} (h : x_inb i n = true) : vp_in i n := by
  simp only [x_inb, Bool.and_eq_true, decide_eq_true_eq, Bool.not_eq_true', decide_eq_false_iff_not] at h
  rintro (q | q)
  · exact h.1 q
  · omega
theorem x_zn {v : Int32} (h : x_zok v = true) : narrow .boolean (.int v) = .int v ∧ fits .boolean (.int v) = true := by
  simp only [x_zok, Bool.or_eq_true, beq_iff_eq] at h
  rcases h with rfl | rfl <;> exact ⟨by decide, by decide⟩
theorem x_zv {v : Int32} (h : x_zok v = true) : vp_nar .boolean v = v := by
  simp only [x_zok, Bool.or_eq_true, beq_iff_eq] at h
  rcases h with rfl | rfl <;> decide
theorem x_cn {v : Int32} (h : x_cok v = true) : narrow .char (.int v) = .int v ∧ fits .char (.int v) = true := by
  simp only [x_cok, Bool.and_eq_true, decide_eq_true_eq] at h
  obtain ⟨j, hj, rfl⟩ := nI_of2 (M := 65535) (n := 65535) (by decide) (x := v) (by
    intro q
    have := h.1
    simp only [Int32.lt_iff_toInt_lt, Int32.le_iff_toInt_le] at q this
    have z : (0 : Int32).toInt = 0 := by decide
    omega) h.2
  exact pk_charN (by omega)
def x_wi (μ : xMu) (r : Int32) : Option Value × xMu := (some (.int r), μ)
def x_wl (μ : xMu) (r : Int64) : Option Value × xMu := (some (.long r), μ)
def x_wr1 (μ : xMu) (r : Nat) : Option Value × xMu := (some (.ref r), μ)
def x_wim (q : Int32 × xMu) : Option Value × xMu := (some (.int q.1), q.2)
def x_wrm (q : Nat × xMu) : Option Value × xMu := (some (.ref q.1), q.2)
def x_wv (μ : xMu) : Option Value × xMu := (none, μ)
def x_wu (μ : xMu) (_ : Unit) : Option Value × xMu := (none, μ)
abbrev xG : Type := Launch × va_G × (Nat → ClassId) × (Nat → Nat)
def Mx (G : xG) (M : xM) (d : Nat) (as : List Value) (μ : xMu) {α : Type} (w : α → Option Value × xMu) (o : Option α) : Prop :=
  ∀ a, o = some a → Met G.1 M.1 (x_wsM M) (x_rm d) (x_Pc G.2.1 G.2.2.1 G.2.2.2 as μ) (x_Q G.2.1 G.2.2.1 G.2.2.2 (w a).1 (w a).2) 0 0 (x_A G.2.2.2)
def Wx (G : xG) (M : xM) (d pc : Nat) (L : List (Option Value)) (st : List Value) (μ : xMu) {α : Type} (w : α → Option Value × xMu) (o : Option α) : Prop :=
  ∀ a, o = some a → ∀ (p : Program) (e : Env) (s : State) (m : MethodId) (args : Array Value) (below : List Frame) (meth : Method) (c : Code), x_E G.2.1 G.2.2.1 G.2.2.2 M p s m args c → meth.sig.returnType = M.2.2.2 → meth.locks = false →
    Wy p G.1 e (x_rm d) s m args below meth c 0 0 (MQ below (x_Q G.2.1 G.2.2.1 G.2.2.2 (w a).1 (w a).2) args s 0 0 (x_A G.2.2.2)) G.2.1 G.2.2.1 G.2.2.2 M pc L st μ
/-! the entry -/
def x_entl (as : List Value) : List (Option Value) := as.flatMap fun v => if v.category = 2 then [some v, none] else [some v]
def x_ent (as : List Value) (n : Nat) : List (Option Value) := x_entl as ++ List.replicate (n - (x_entl as).length) none
theorem x_entl_len (ad : Nat → Nat) (as : List Value) : (x_entl as).length = (lg_sl (as.map (x_cv ad))).length := by
  induction as with
  | nil => rfl
  | cons v r ih =>
    simp only [x_entl, lg_sl, List.flatMap_cons, List.map_cons, List.length_append, x_cv_cat] at ih ⊢
    rw [ih]
    congr 1
    split <;> rfl
theorem x_entl_at (ad : Nat → Nat) (as : List Value) : ∀ (i : Nat) (v : Value), (x_entl as)[i]? = some (some v) → (lg_sl (as.map (x_cv ad)))[i]? = some (.val (x_cv ad v)) := by
  induction as with
  | nil => intro i v h; simp [x_entl] at h
  | cons u r ih =>
    intro i v h
    simp only [x_entl, lg_sl, List.flatMap_cons, List.map_cons, x_cv_cat] at ih h ⊢
    by_cases hc : u.category = 2
    · simp only [hc, if_true] at h ⊢
      match i, h with
      | 0, h => simp at h; subst h; rfl
      | 1, h => simp at h
      | i + 2, h => exact ih i v (by simpa using h)
    · simp only [hc, if_false] at h ⊢
      match i, h with
      | 0, h => simp at h; subst h; rfl
      | i + 1, h => exact ih i v (by simpa using h)
theorem mx_enter {G : xG} {M : xM} {d : Nat} {as : List Value} {μ : xMu} {α : Type} {w : α → Option Value × xMu} {o : Option α} (ok : x_ok M) (L : List (Option Value)) (hL : x_ent as M.2.2.1 = L) (hn : (x_entl as).length ≤ M.2.2.1) (k : Wx G M d 0 L [] μ w o) : Mx G M d as μ w o := by
  intro a ho
  obtain ⟨hcode, hpl, -, -, -⟩ := ok
  refine Met.ofW (cc := M.2.1) (maxL := M.2.2.1) (ret := M.2.2.2) hpl rfl ?_
  intro p e s m args below meth c s₁ B hml hv
  obtain ⟨rfl, hP, hK, hinj, hE⟩ := hv
  have hts0 := atoms_spec (ws := x_wsM M) B.pre
  have hlen : (lg_sl (as.map (x_cv G.2.2.2))).length ≤ M.2.2.1 := by rw [← x_entl_len]; exact hn
  have hl := lv_entry (as.map (x_cv G.2.2.2)) (n := M.2.2.1) hlen
  rw [lg_entry_eq]
  have hl2 : x_LR G.2.2.2 (lg_sl (as.map (x_cv G.2.2.2)) ++ List.replicate (M.2.2.1 - (lg_sl (as.map (x_cv G.2.2.2))).length) Slot.unset).toArray M.2.2.1 L := by
    subst hL
    refine ⟨hl.1, by simp only [x_ent, List.length_append, List.length_replicate]; omega, hl.2.1, fun i v hi => ?_⟩
    unfold x_ent at hi
    rw [List.getElem?_append] at hi
    split at hi
    · next hlt =>
      rw [List.getElem?_toArray, List.getElem?_append_left (by rw [← x_entl_len]; exact hlt)]
      exact x_entl_at _ _ i v hi
    · rw [List.getElem?_replicate] at hi
      split at hi <;> cases hi
  have h := k a ho p e s m _ below meth c ⟨B.exec, B.bytes, hml, findClass_of_methodNamed B.named, fun w h => hts0 w (List.mem_cons_of_mem _ h), hK, hinj, hE⟩ B.returns B.notSynchronized
  exact h _ s.heap [] hl2 hP va_S.rf
section WX
variable {G : xG} {M : xM} {d pc : Nat} {L : List (Option Value)} {st : List Value} {μ : xMu} {α : Type} {w : α → Option Value × xMu} {o o2 : Option α}
theorem wx_none : Wx G M d pc L st μ w none := fun a ho => by cases ho
theorem wx_blk (is : List Instr) {pc' : Nat} {L' : List (Option Value)} {st' : List Value} (h1 : x_dec M.2.1 pc is = true) (h2 : x_evs is L st = some (L', st')) (h3 : pc + x_szs is = pc') (k : Wx G M d pc' L' st' μ w o) : Wx G M d pc L st μ w o :=
  fun a ho p e s m args below meth c E hr hk => wy_blk E is h1 h2 h3 (k a ho p e s m args below meth c E hr hk)
/-- fewer locals are known -/
def x_sub : List (Option Value) → List (Option Value) → Prop
  | [], [] => True
  | none :: a, _ :: b => x_sub a b
  | some v :: a, some u :: b => v = u ∧ x_sub a b
  | _, _ => False
theorem x_sub_at : ∀ {a b : List (Option Value)}, x_sub a b → a.length = b.length ∧ ∀ (i : Nat) (v : Value), a[i]? = some (some v) → b[i]? = some (some v)
  | [], [], _ => ⟨rfl, fun i v h => by simp at h⟩
  | none :: a, _ :: b, h => by
    obtain ⟨h1, h2⟩ := x_sub_at (a := a) (b := b) h
    refine ⟨by simp [h1], fun i v hi => ?_⟩
    match i, hi with
    | 0, hi => simp at hi
    | i + 1, hi => exact h2 i v (by simpa using hi)
  | some v :: a, some u :: b, h => by
    obtain ⟨rfl, h⟩ := h
    obtain ⟨h1, h2⟩ := x_sub_at (a := a) (b := b) h
    refine ⟨by simp [h1], fun i v hi => ?_⟩
    match i, hi with
    | 0, hi => simpa using hi
    | i + 1, hi => exact h2 i v (by simpa using hi)
theorem wx_weak {L' : List (Option Value)} (h : x_sub L' L) (k : Wx G M d pc L' st μ w o) : Wx G M d pc L st μ w o :=
  fun a ho p e s m args below meth c E hr hk ls H locs hl hP hS => k a ho p e s m args below meth c E hr hk ls H locs ⟨hl.1, (x_sub_at h).1.trans hl.2.1, hl.2.2.1, fun i v hi => hl.2.2.2 i v ((x_sub_at h).2 i v hi)⟩ hP hS
theorem wx_goto (tgt : Nat) {off : Int} (hd : decode M.2.1 pc = .ok (.goto off, 3)) (ht : (pc : Int) + off = (tgt : Int)) (k : Wx G M d tgt L st μ w o) : Wx G M d pc L st μ w o :=
  fun a ho p e s m args below meth c E hr hk => wy_goto E hd ht (k a ho p e s m args below meth c E hr hk)
theorem x_ifp {c : Prop} [Decidable c] {o o2 : Option α} {a : α} (h : (if c then o else o2) = some a) (hc : c) : o = some a := by rwa [if_pos hc] at h
theorem x_ifn {c : Prop} [Decidable c] {o o2 : Option α} {a : α} (h : (if c then o else o2) = some a) (hc : ¬ c) : o2 = some a := by rwa [if_neg hc] at h
theorem wx_if_eq (tgt : Nat) {x : Int32} {off : Int} (hd : decode M.2.1 pc = .ok (.ifCond .eq off, 3)) (ht : (pc : Int) + off = (tgt : Int)) (kt : Wx G M d tgt L st μ w o) (kf : Wx G M d (pc + 3) L st μ w o2) : Wx G M d pc L (.int x :: st) μ w (if x = 0 then o else o2) :=
  fun a ho p e s m args below meth c E hr hk => wy_if_eq E hd ht (fun h => kt a (x_ifp ho h) p e s m args below meth c E hr hk) (fun h => kf a (x_ifn ho h) p e s m args below meth c E hr hk)
theorem wx_if_ne (tgt : Nat) {x : Int32} {off : Int} (hd : decode M.2.1 pc = .ok (.ifCond .ne off, 3)) (ht : (pc : Int) + off = (tgt : Int)) (kt : Wx G M d tgt L st μ w o2) (kf : Wx G M d (pc + 3) L st μ w o) : Wx G M d pc L (.int x :: st) μ w (if x = 0 then o else o2) :=
  fun a ho p e s m args below meth c E hr hk => wy_if_ne E hd ht (fun h => kt a (x_ifn ho h) p e s m args below meth c E hr hk) (fun h => kf a (x_ifp ho h) p e s m args below meth c E hr hk)
theorem wx_if_lt (tgt : Nat) {x : Int32} {off : Int} (hd : decode M.2.1 pc = .ok (.ifCond .lt off, 3)) (ht : (pc : Int) + off = (tgt : Int)) (kt : Wx G M d tgt L st μ w o) (kf : Wx G M d (pc + 3) L st μ w o2) : Wx G M d pc L (.int x :: st) μ w (if x < 0 then o else o2) :=
  fun a ho p e s m args below meth c E hr hk => wy_if_lt E hd ht (fun h => kt a (x_ifp ho h) p e s m args below meth c E hr hk) (fun h => kf a (x_ifn ho h) p e s m args below meth c E hr hk)
theorem wx_if_ge (tgt : Nat) {x : Int32} {off : Int} (hd : decode M.2.1 pc = .ok (.ifCond .ge off, 3)) (ht : (pc : Int) + off = (tgt : Int)) (kt : Wx G M d tgt L st μ w o) (kf : Wx G M d (pc + 3) L st μ w o2) : Wx G M d pc L (.int x :: st) μ w (if 0 ≤ x then o else o2) :=
  fun a ho p e s m args below meth c E hr hk => wy_if_ge E hd ht (fun h => kt a (x_ifp ho h) p e s m args below meth c E hr hk) (fun h => kf a (x_ifn ho h) p e s m args below meth c E hr hk)
theorem wx_if_gt (tgt : Nat) {x : Int32} {off : Int} (hd : decode M.2.1 pc = .ok (.ifCond .gt off, 3)) (ht : (pc : Int) + off = (tgt : Int)) (kt : Wx G M d tgt L st μ w o) (kf : Wx G M d (pc + 3) L st μ w o2) : Wx G M d pc L (.int x :: st) μ w (if 0 < x then o else o2) :=
  fun a ho p e s m args below meth c E hr hk => wy_if_gt E hd ht (fun h => kt a (x_ifp ho h) p e s m args below meth c E hr hk) (fun h => kf a (x_ifn ho h) p e s m args below meth c E hr hk)
theorem wx_if_le (tgt : Nat) {x : Int32} {off : Int} (hd : decode M.2.1 pc = .ok (.ifCond .le off, 3)) (ht : (pc : Int) + off = (tgt : Int)) (kt : Wx G M d tgt L st μ w o) (kf : Wx G M d (pc + 3) L st μ w o2) : Wx G M d pc L (.int x :: st) μ w (if x ≤ 0 then o else o2) :=
  fun a ho p e s m args below meth c E hr hk => wy_if_le E hd ht (fun h => kt a (x_ifp ho h) p e s m args below meth c E hr hk) (fun h => kf a (x_ifn ho h) p e s m args below meth c E hr hk)
theorem wx_ic_eq (tgt : Nat) {x y : Int32} {off : Int} (hd : decode M.2.1 pc = .ok (.if_icmp .eq off, 3)) (ht : (pc : Int) + off = (tgt : Int)) (kt : Wx G M d tgt L st μ w o) (kf : Wx G M d (pc + 3) L st μ w o2) : Wx G M d pc L (.int y :: .int x :: st) μ w (if x = y then o else o2) :=
  fun a ho p e s m args below meth c E hr hk => wy_ic_eq E hd ht (fun h => kt a (x_ifp ho h) p e s m args below meth c E hr hk) (fun h => kf a (x_ifn ho h) p e s m args below meth c E hr hk)
theorem wx_ic_ne (tgt : Nat) {x y : Int32} {off : Int} (hd : decode M.2.1 pc = .ok (.if_icmp .ne off, 3)) (ht : (pc : Int) + off = (tgt : Int)) (kt : Wx G M d tgt L st μ w o2) (kf : Wx G M d (pc + 3) L st μ w o) : Wx G M d pc L (.int y :: .int x :: st) μ w (if x = y then o else o2) :=
  fun a ho p e s m args below meth c E hr hk => wy_ic_ne E hd ht (fun h => kt a (x_ifn ho h) p e s m args below meth c E hr hk) (fun h => kf a (x_ifp ho h) p e s m args below meth c E hr hk)
theorem wx_ic_lt (tgt : Nat) {x y : Int32} {off : Int} (hd : decode M.2.1 pc = .ok (.if_icmp .lt off, 3)) (ht : (pc : Int) + off = (tgt : Int)) (kt : Wx G M d tgt L st μ w o) (kf : Wx G M d (pc + 3) L st μ w o2) : Wx G M d pc L (.int y :: .int x :: st) μ w (if x < y then o else o2) :=
  fun a ho p e s m args below meth c E hr hk => wy_ic_lt E hd ht (fun h => kt a (x_ifp ho h) p e s m args below meth c E hr hk) (fun h => kf a (x_ifn ho h) p e s m args below meth c E hr hk)
theorem wx_ic_ge (tgt : Nat) {x y : Int32} {off : Int} (hd : decode M.2.1 pc = .ok (.if_icmp .ge off, 3)) (ht : (pc : Int) + off = (tgt : Int)) (kt : Wx G M d tgt L st μ w o) (kf : Wx G M d (pc + 3) L st μ w o2) : Wx G M d pc L (.int y :: .int x :: st) μ w (if y ≤ x then o else o2) :=
  fun a ho p e s m args below meth c E hr hk => wy_ic_ge E hd ht (fun h => kt a (x_ifp ho h) p e s m args below meth c E hr hk) (fun h => kf a (x_ifn ho h) p e s m args below meth c E hr hk)
theorem wx_ic_gt (tgt : Nat) {x y : Int32} {off : Int} (hd : decode M.2.1 pc = .ok (.if_icmp .gt off, 3)) (ht : (pc : Int) + off = (tgt : Int)) (kt : Wx G M d tgt L st μ w o) (kf : Wx G M d (pc + 3) L st μ w o2) : Wx G M d pc L (.int y :: .int x :: st) μ w (if y < x then o else o2) :=
  fun a ho p e s m args below meth c E hr hk => wy_ic_gt E hd ht (fun h => kt a (x_ifp ho h) p e s m args below meth c E hr hk) (fun h => kf a (x_ifn ho h) p e s m args below meth c E hr hk)
theorem wx_ic_le (tgt : Nat) {x y : Int32} {off : Int} (hd : decode M.2.1 pc = .ok (.if_icmp .le off, 3)) (ht : (pc : Int) + off = (tgt : Int)) (kt : Wx G M d tgt L st μ w o) (kf : Wx G M d (pc + 3) L st μ w o2) : Wx G M d pc L (.int y :: .int x :: st) μ w (if x ≤ y then o else o2) :=
  fun a ho p e s m args below meth c E hr hk => wy_ic_le E hd ht (fun h => kt a (x_ifp ho h) p e s m args below meth c E hr hk) (fun h => kf a (x_ifn ho h) p e s m args below meth c E hr hk)
theorem x_bt {b : Bool} {a : α} (h : (bif b then o else none) = some a) : b = true ∧ o = some a := by
  cases b
  · cases h
  · exact ⟨rfl, h⟩
theorem wx_chk {k c : Nat} (h : x_is k c → Wx G M d pc L st μ w o) : Wx G M d pc L st μ w (x_chk k c o) :=
  fun a ho => h (x_is_of (x_bt ho).1) a (x_bt ho).2
theorem wx_tst {b : Bool} (h : b = true → Wx G M d pc L st μ w o) : Wx G M d pc L st μ w (x_tst b o) :=
  fun a ho => h (x_bt ho).1 a (x_bt ho).2
theorem x_nz {y : Int32} (h : (!(y == 0)) = true) : ¬ y = 0 := by
  intro q
  subst q
  cases h
theorem wx_idiv {x y : Int32} (hd : decode M.2.1 pc = .ok (.idiv, 1)) (hy : ¬ y = 0) (k : Wx G M d (pc + 1) L (.int (x / y) :: st) μ w o) : Wx G M d pc L (.int y :: .int x :: st) μ w o :=
  fun a ho p e s m args below meth c E hr hk => wy_idiv E hd hy (k a ho p e s m args below meth c E hr hk)
theorem wx_irem {x y : Int32} (hd : decode M.2.1 pc = .ok (.irem, 1)) (hy : ¬ y = 0) (k : Wx G M d (pc + 1) L (.int (x - x / y * y) :: st) μ w o) : Wx G M d pc L (.int y :: .int x :: st) μ w o :=
  fun a ho p e s m args below meth c E hr hk => wy_irem E hd hy (k a ho p e s m args below meth c E hr hk)
theorem wx_ldc {idx : Nat} {v : Int32} (hw : Cond.constant M.1.cls idx v ∈ x_ws) (hd : decode M.2.1 pc = .ok (.ldc idx, 2)) (k : Wx G M d (pc + 2) L (.int v :: st) μ w o) : Wx G M d pc L st μ w o :=
  fun a ho p e s m args below meth c E hr hk => wy_ldc E hw hd (k a ho p e s m args below meth c E hr hk)
theorem wx_ldcw {idx : Nat} {v : Int32} (hw : Cond.constant M.1.cls idx v ∈ x_ws) (hd : decode M.2.1 pc = .ok (.ldc_w idx, 3)) (k : Wx G M d (pc + 3) L (.int v :: st) μ w o) : Wx G M d pc L st μ w o :=
  fun a ho p e s m args below meth c E hr hk => wy_ldcw E hw hd (k a ho p e s m args below meth c E hr hk)
theorem wx_ldc2 {idx : Nat} {v : Int64} (hw : Cond.constantLong M.1.cls idx v ∈ x_ws) (hd : decode M.2.1 pc = .ok (.ldc2_w idx, 3)) (k : Wx G M d (pc + 3) L (.long v :: st) μ w o) : Wx G M d pc L st μ w o :=
  fun a ho p e s m args below meth c E hr hk => wy_ldc2 E hw hd (k a ho p e s m args below meth c E hr hk)
theorem wx_ldcs (i : Nat) (hi : i < 8) (ho1 : M.1.cls = "WakingLayers$Reader") (hd : decode M.2.1 pc = .ok (.ldc (x_txI.getD i 0), 2)) (k : Wx G M d (pc + 2) L (.ref (910 + i) :: st) μ w o) : Wx G M d pc L st μ w o :=
  fun a ho p e s m args below meth c E hr hk => wy_ldcs E hi ho1 hd (k a ho p e s m args below meth c E hr hk)
theorem x_fv_i {μ : xMu} {k c j : Nat} (h : x_is k c) (hf : x_fr c j = false) : x_fv μ k j = .int (μ k j) := by
  simp [x_fv, h.2, hf]
theorem x_fv_r {μ : xMu} {k c j r : Nat} (h : x_is k c) (hf : x_fr c j = true) (hr : x_rf k j = some r) : x_fv μ k j = .ref r := by
  simp [x_fv, h.2, hf, hr, va_rf]
theorem wx_geti {k idx ci j N : Nat} {C : String} {T : u_T} (hk : x_is k ci) (F : x_FF M.1.cls idx ci j C T N) (hf : x_fr ci j = false) (hd : decode M.2.1 pc = .ok (.getfield idx, 3)) (kk : Wx G M d (pc + 3) L (.int (μ k j) :: st) μ w o) : Wx G M d pc L (.ref k :: st) μ w o :=
  fun a ho p e s m args below meth c E hr hq => wy_get E hk F hd (by rw [x_fv_i hk hf]; exact kk a ho p e s m args below meth c E hr hq)
theorem wx_getr {k idx ci j N r : Nat} {C : String} {T : u_T} (hk : x_is k ci) (F : x_FF M.1.cls idx ci j C T N) (hf : x_fr ci j = true) (hr1 : x_rf k j = some r) (hd : decode M.2.1 pc = .ok (.getfield idx, 3)) (kk : Wx G M d (pc + 3) L (.ref r :: st) μ w o) : Wx G M d pc L (.ref k :: st) μ w o :=
  fun a ho p e s m args below meth c E hr hq => wy_get E hk F hd (by rw [x_fv_r hk hf hr1]; exact kk a ho p e s m args below meth c E hr hq)
theorem wx_rfd {k idx ci j N : Nat} {C : String} {T : u_T} {f : Nat → Option α} (hk : x_is k ci) (F : x_FF M.1.cls idx ci j C T N) (hf : x_fr ci j = true) (hd : decode M.2.1 pc = .ok (.getfield idx, 3)) (kk : ∀ r, Wx G M d (pc + 3) L (.ref r :: st) μ w (f r)) : Wx G M d pc L (.ref k :: st) μ w (x_rfd k j f) := by
  intro a ho
  unfold x_rfd at ho
  split at ho
  · next r hr1 => exact wx_getr hk F hf hr1 hd (kk r) a ho
  · cases ho
theorem wx_put {k idx ci j N : Nat} {C : String} {T : u_T} {ty0 : Nat → FieldType} {ty : FieldType} {v : Int32} {f : xMu → Option α} (hk : x_is k ci) (F : x_FF M.1.cls idx ci j C T N) (P : x_FP ci j T N ty0 ty) (hn : narrow ty (.int v) = .int v ∧ fits ty (.int v) = true) (hd : decode M.2.1 pc = .ok (.putfield idx, 3)) (kk : ∀ μ1, Wx G M d (pc + 3) L st μ1 w (f μ1)) : Wx G M d pc L (.int v :: .ref k :: st) μ w (x_put μ k j v f) :=
  fun a ho p e s m args below meth c E hr hq => wy_put E hk F P hn.1 hn.2 hd (kk (x_wr μ k j v) a ho p e s m args below meth c E hr hq)
theorem wx_ald {k n : Nat} {i : Int32} {f : Int32 → Option α} (hk : x_is k 13) (hn : x_sz k = n) (hd : decode M.2.1 pc = .ok (.iaload, 1)) (kk : ∀ v, Wx G M d (pc + 1) L (.int v :: st) μ w (f v)) : Wx G M d pc L (.int i :: .ref k :: st) μ w (x_ald μ k n i f) :=
  fun a ho p e s m args below meth c E hr hq => wy_iald E hk (by rw [hn]; exact x_in_of (x_bt ho).1) hd (kk _ a (x_bt ho).2 p e s m args below meth c E hr hq)
theorem wx_zald {k n : Nat} {i : Int32} {f : Int32 → Option α} (hk : x_is k 14) (hn : x_sz k = n) (hd : decode M.2.1 pc = .ok (.baload, 1)) (kk : ∀ v, Wx G M d (pc + 1) L (.int v :: st) μ w (f v)) : Wx G M d pc L (.int i :: .ref k :: st) μ w (x_ald μ k n i f) :=
  fun a ho p e s m args below meth c E hr hq => wy_zald E hk (by rw [hn]; exact x_in_of (x_bt ho).1) hd (kk _ a (x_bt ho).2 p e s m args below meth c E hr hq)
theorem wx_ast {k n : Nat} {i v : Int32} {f : xMu → Option α} (hk : x_is k 13) (hn : x_sz k = n) (hd : decode M.2.1 pc = .ok (.iastore, 1)) (kk : ∀ μ1, Wx G M d (pc + 1) L st μ1 w (f μ1)) : Wx G M d pc L (.int v :: .int i :: .ref k :: st) μ w (x_ast μ k n i v f) :=
  fun a ho p e s m args below meth c E hr hq => wy_iast E hk (by rw [hn]; exact x_in_of (x_bt ho).1) hd (kk _ a (x_bt ho).2 p e s m args below meth c E hr hq)
theorem wx_zast {k n : Nat} {i v : Int32} {f : xMu → Option α} (hk : x_is k 14) (hn : x_sz k = n) (hz : x_zok v = true) (hd : decode M.2.1 pc = .ok (.bastore, 1)) (kk : ∀ μ1, Wx G M d (pc + 1) L st μ1 w (f μ1)) : Wx G M d pc L (.int v :: .int i :: .ref k :: st) μ w (x_ast μ k n i v f) :=
  fun a ho p e s m args below meth c E hr hq => wy_zast E hk (by rw [hn]; exact x_in_of (x_bt ho).1) hd (by rw [x_zv hz]; exact kk _ a (x_bt ho).2 p e s m args below meth c E hr hq)
theorem wx_rld {k n cx : Nat} {i : Int32} {f : Nat → Option α} (hk : x_is k cx) (hcx : ¬ cx < 15) (hn : x_sz k = n) (hd : decode M.2.1 pc = .ok (.aaload, 1)) (kk : ∀ r, Wx G M d (pc + 1) L (.ref r :: st) μ w (f r)) : Wx G M d pc L (.int i :: .ref k :: st) μ w (x_rld k n i f) := by
  intro a ho
  obtain ⟨h1, h2⟩ := x_bt ho
  split at h2
  · next r hr1 => exact fun p e s m args below meth c E hr hq => wy_aald E hk hcx (by rw [hn]; exact x_in_of h1) hr1 hd (kk r a h2 p e s m args below meth c E hr hq)
  · cases h2
theorem wx_abo {idx : Nat} (hw : Cond.fieldLink M.1.cls idx "WakingLayers$Asker" "ABOVE" "[I" ∈ x_ws) (hd : decode M.2.1 pc = .ok (.getstatic idx, 3)) (kk : Wx G M d (pc + 3) L (.ref 900 :: st) μ w o) : Wx G M d pc L st μ w o :=
  fun a ho p e s m args below meth c E hr hq => wy_abo E hw hd (kk a ho p e s m args below meth c E hr hq)
theorem wx_abolen (hd : decode M.2.1 pc = .ok (.arraylength, 1)) (kk : Wx G M d (pc + 1) L (.int 6 :: st) μ w o) : Wx G M d pc L (.ref 900 :: st) μ w o :=
  fun a ho p e s m args below meth c E hr hq => wy_abolen E hd (kk a ho p e s m args below meth c E hr hq)
theorem wx_abold {i : Int32} {f : Int32 → Option α} (hd : decode M.2.1 pc = .ok (.iaload, 1)) (kk : ∀ v, Wx G M d (pc + 1) L (.int v :: st) μ w (f v)) : Wx G M d pc L (.int i :: .ref 900 :: st) μ w (x_abo i f) :=
  fun a ho p e s m args below meth c E hr hq => wy_abold E (x_in_of (x_bt ho).1) hd (kk _ a (x_bt ho).2 p e s m args below meth c E hr hq)
/-! ends -/
theorem wx_iret {a0 : α} {v : Int32} (hw : w a0 = (some (.int v), μ)) (hM : M.2.2.2 = some .int) (hd : decode M.2.1 pc = .ok (.ireturn, 1)) : Wx G M d pc L [.int v] μ w (some a0) := by
  intro a ho p e s m args below meth c E hr hk ls H locs hl hP hS
  cases ho
  rw [hw]
  exact W.iret E.1 E.2.1 (hr.trans hM) (fun t ht hW => ⟨rfl, by rw [ht]; exact hP, hS.F ht⟩) hS.2.2 hd hk
theorem wx_zret {a0 : α} {v : Int32} (hw : w a0 = (some (.int v), μ)) (hM : M.2.2.2 = some .boolean) (hz : x_zok v = true) (hd : decode M.2.1 pc = .ok (.ireturn, 1)) : Wx G M d pc L [.int v] μ w (some a0) := by
  intro a ho p e s m args below meth c E hr hk ls H locs hl hP hS
  cases ho
  rw [hw]
  exact W.zret E.1 E.2.1 (hr.trans hM) (x_zn hz).1 (fun t ht hW => ⟨rfl, by rw [ht]; exact hP, hS.F ht⟩) hS.2.2 hd hk
theorem wx_vret {a0 : α} (hw : w a0 = (none, μ)) (hM : M.2.2.2 = none) (hd : decode M.2.1 pc = .ok (.return_, 1)) : Wx G M d pc L [] μ w (some a0) := by
  intro a ho p e s m args below meth c E hr hk ls H locs hl hP hS
  cases ho
  rw [hw]
  exact W.vret E.1 E.2.1 (hr.trans hM) (fun t ht hW => ⟨rfl, by rw [ht]; exact hP, hS.F ht⟩) hS.2.2 hd hk
theorem wx_lret {a0 : α} {v : Int64} (hw : w a0 = (some (.long v), μ)) (hM : M.2.2.2 = some .long) (hd : decode M.2.1 pc = .ok (.lreturn, 1)) : Wx G M d pc L [.long v] μ w (some a0) := by
  intro a ho p e s m args below meth c E hr hk ls H locs hl hP hS
  cases ho
  rw [hw]
  exact W.lret E.1 E.2.1 (hr.trans hM) (fun t ht hW => ⟨rfl, by rw [ht]; exact hP, hS.F ht⟩) hS.2.2 hd hk
theorem wx_aret {a0 : α} {v : Nat} {ty : FieldType} (hw : w a0 = (some (.ref v), μ)) (hM : M.2.2.2 = some (.array ty)) (hd : decode M.2.1 pc = .ok (.areturn, 1)) : Wx G M d pc L [.ref v] μ w (some a0) := by
  intro a ho p e s m args below meth c E hr hk ls H locs hl hP hS
  cases ho
  rw [hw]
  exact W.aret E.1 E.2.1 (hr.trans hM) (Or.inr ⟨_, rfl⟩) (Or.inr ⟨_, rfl⟩) (fun t ht hW => ⟨rfl, by rw [ht]; exact hP, hS.F ht⟩) hS.2.2 hd hk
/-! calls -/
theorem wx_callV {β : Type} {w1 : β → Option Value × xMu} {o1 : Option β} {f : β → Option α} {M' : xM} {d1 idx k ci N n : Nat} {T : u_T} {As rest : List Value} (hd1 : d1 < d) (hk : x_is k ci) (hci : ci < 13) (hc : vwCl[ci]? = some (M'.1.cls, T, N)) (C : x_CV M.1.cls idx M' n) (hn : As.length = n) (hrest : (rest.map fun v => v.category).sum ≤ 8)
    (hM : Mx G M' d1 (.ref k :: As) μ w1 o1) (hst : st = As.reverse ++ .ref k :: rest) (hd : decode M.2.1 pc = .ok (.invokevirtual idx, 3)) (kk : ∀ b, Wx G M d (pc + 3) L ((w1 b).1.toList ++ rest) (w1 b).2 w (f b)) : Wx G M d pc L st μ w (o1.bind f) := by
  intro a ho p e s m args below meth c E hr hq
  obtain ⟨b, hb, hf⟩ := Option.bind_eq_some_iff.mp ho
  exact wy_callV E (d := d1) ⟨hd1, by show 40 * (d1 + 1) ≤ 40 * d; omega⟩ ⟨Nat.le_refl 0, Nat.le_refl 0⟩ hk hci hc C hn hrest hst hd (hM b hb) (kk b a hf p e s m args below meth c E hr hq)
theorem wx_callS {β : Type} {w1 : β → Option Value × xMu} {o1 : Option β} {f : β → Option α} {M' : xM} {d1 idx n : Nat} {As rest : List Value} (hd1 : d1 < d) (C : x_CS M.1.cls idx M' n) (hn : As.length = n) (hrest : (rest.map fun v => v.category).sum ≤ 8)
    (hM : Mx G M' d1 As μ w1 o1) (hst : st = As.reverse ++ rest) (hd : decode M.2.1 pc = .ok (.invokestatic idx, 3)) (kk : ∀ b, Wx G M d (pc + 3) L ((w1 b).1.toList ++ rest) (w1 b).2 w (f b)) : Wx G M d pc L st μ w (o1.bind f) := by
  intro a ho p e s m args below meth c E hr hq
  obtain ⟨b, hb, hf⟩ := Option.bind_eq_some_iff.mp ho
  exact wy_callS E (d := d1) ⟨hd1, by show 40 * (d1 + 1) ≤ 40 * d; omega⟩ ⟨Nat.le_refl 0, Nat.le_refl 0⟩ C hn hrest hst hd (hM b hb) (kk b a hf p e s m args below meth c E hr hq)
/-! switches -/
def x_F2 (P : Nat → Option α → Prop) : List Nat → List (Option α) → Prop
  | [], [] => True
  | t :: ts, q :: qs => P t q ∧ x_F2 P ts qs
  | _, _ => False
theorem x_sw_at {P : Nat → Option α → Prop} {x : Int32} {dd : Option α} {a : α} : ∀ {tg : List Nat} {cs : List (Option α)} {lo : Int32} {b : Nat}, x_F2 P tg cs → lo = nI b → b + tg.length < 2 ^ 31 → x_sw x lo cs dd = some a → (∃ (j t : Nat) (q : Option α), tg[j]? = some t ∧ x = nI (b + j) ∧ P t q ∧ q = some a) ∨ ((∀ j, j < tg.length → ¬ x = nI (b + j)) ∧ dd = some a)
  | [], [], lo, b, _, _, _, h => Or.inr ⟨fun j hj => absurd hj (Nat.not_lt_zero j), h⟩
  | t :: ts, q :: qs, lo, b, hF, hlo, hb, h => by
    unfold x_sw at h
    split at h
    · next hx => exact Or.inl ⟨0, t, q, rfl, by rw [hx, hlo]; rfl, hF.1, h⟩
    · next hx =>
      rcases x_sw_at (b := b + 1) hF.2 (by rw [hlo]; exact nI_1 b) (by simp at hb; omega) h with ⟨j, t', q', h1, h2, h3, h4⟩ | ⟨h1, h2⟩
      · exact Or.inl ⟨j + 1, t', q', by simpa using h1, by rw [h2]; congr 1; omega, h3, h4⟩
      · refine Or.inr ⟨fun j hj => ?_, h2⟩
        match j, hj with
        | 0, _ => intro hh; exact hx (by rw [hh, hlo]; rfl)
        | j + 1, hj => 
          have := h1 j (by simpa using hj)
          rw [show b + (j + 1) = b + 1 + j by omega]
          exact this
theorem wx_tsw (tg : List Nat) (td b : Nat) {x : Int32} {cs : List (Option α)} {dd : Option α} {dflt lo hi : Int} {offs : Array Int} {len : Nat} (hd : decode M.2.1 pc = .ok (.tableswitch dflt lo hi offs, len)) (hlo : lo = (b : Int)) (hhi : hi + 1 = (b : Int) + tg.length) (hsm : b + tg.length < 1000) (ho1 : offs.toList.map (fun o => (pc : Int) + o) = tg.map (fun t : Nat => (t : Int))) (hdf : (pc : Int) + dflt = (td : Int))
    (hk : x_F2 (fun t q => Wx G M d t L st μ w q) tg cs) (hkd : Wx G M d td L st μ w dd) : Wx G M d pc L (.int x :: st) μ w (x_sw x (nI b) cs dd) := by
  intro a ho p e s m args below meth c E hr hq ls H locs hl hP hS
  rcases x_sw_at hk rfl (by omega) ho with ⟨j, t, q, h1, h2, h3, h4⟩ | ⟨h1, h2⟩
  · have hj : j < tg.length := (List.getElem?_eq_some_iff.mp h1).1
    have e1 : x.toInt = ((b + j : Nat) : Int) := by rw [h2]; exact nI_toInt (by omega)
    have e2 : (offs.toList.map (fun o => (pc : Int) + o))[j]? = some (t : Int) := by rw [ho1, List.getElem?_map, h1]; rfl
    rw [List.getElem?_map] at e2
    obtain ⟨off, e3, e4⟩ := Option.map_eq_some_iff.mp e2
    refine lv_tableIn (tgt := t) (off := off) E.1 E.2.1 hd (by omega) (by omega) ?_ e4 (h3 a h4 p e s m args below meth c E hr hq ls H locs hl hP hS)
    rw [show (x.toInt - lo).toNat = j by omega]
    simpa using e3
  · refine lv_tableOut (tgt := td) E.1 E.2.1 hd ?_ hdf (hkd a h2 p e s m args below meth c E hr hq ls H locs hl hP hS)
    rcases Int.lt_or_le x.toInt lo with q | q
    · exact Or.inl q
    · refine Or.inr ?_
      rcases Int.lt_or_le hi x.toInt with q2 | q2
      · exact q2
      · exfalso
        have h3 := h1 (x.toInt - b).toNat (by omega)
        apply h3
        apply Int32.toInt_inj.mp
        rw [nI_toInt (by omega)]
        omega
theorem wx_lsw2 (t0 t1 td : Nat) {x : Int32} {q0 q1 dd : Option α} {dflt o0 o1 : Int} {len : Nat} (hd : decode M.2.1 pc = .ok (.lookupswitch dflt #[(0, o0), (1, o1)], len)) (h0 : (pc : Int) + o0 = (t0 : Int)) (h1 : (pc : Int) + o1 = (t1 : Int)) (hdf : (pc : Int) + dflt = (td : Int))
    (k0 : Wx G M d t0 L st μ w q0) (k1 : Wx G M d t1 L st μ w q1) (kd : Wx G M d td L st μ w dd) : Wx G M d pc L (.int x :: st) μ w (x_sw x 0 [q0, q1] dd) := by
  intro a ho p e s m args below meth c E hr hq ls H locs hl hP hS
  simp only [x_sw] at ho
  by_cases e0 : x = 0
  · rw [if_pos e0] at ho
    exact lv_lookup E.1 E.2.1 hd rfl (by subst e0; rfl) h0 (k0 a ho p e s m args below meth c E hr hq ls H locs hl hP hS)
  · rw [if_neg e0] at ho
    by_cases e1 : x = 0 + 1
    · rw [if_pos e1] at ho
      exact lv_lookup E.1 E.2.1 hd rfl (by subst e1; rfl) h1 (k1 a ho p e s m args below meth c E hr hq ls H locs hl hP hS)
    · rw [if_neg e1] at ho
      refine lv_lookup (off := dflt) E.1 E.2.1 hd rfl ?_ hdf (kd a ho p e s m args below meth c E hr hq ls H locs hl hP hS)
      rw [lv_osw (k := 0) e0 (by decide), lv_osw (k := 0 + 1) e1 (by decide)]
      rfl
end WX
end
section
theorem xw_91 : Jvm.Cond.initialized "WakingLayers" ∈ x_ws := x_in 91 (by decide +kernel) rfl
theorem xw_92 : Jvm.Cond.initialized "WakingLayers$Sheets" ∈ x_ws := x_in 92 (by decide +kernel) rfl
theorem xw_93 : Jvm.Cond.initialized "WakingLayers$Tape" ∈ x_ws := x_in 93 (by decide +kernel) rfl
theorem xw_94 : Jvm.Cond.initialized "WakingLayers$Program" ∈ x_ws := x_in 94 (by decide +kernel) rfl
theorem xw_95 : Jvm.Cond.initialized "WakingLayers$Layer" ∈ x_ws := x_in 95 (by decide +kernel) rfl
theorem xw_96 : Jvm.Cond.initialized "WakingLayers$Body" ∈ x_ws := x_in 96 (by decide +kernel) rfl
theorem xw_97 : Jvm.Cond.initialized "WakingLayers$Reader" ∈ x_ws := x_in 97 (by decide +kernel) rfl
theorem xw_98 : Jvm.Cond.initialized "WakingLayers$Circumstances" ∈ x_ws := x_in 98 (by decide +kernel) rfl
theorem xw_99 : Jvm.Cond.initialized "WakingLayers$Rows" ∈ x_ws := x_in 99 (by decide +kernel) rfl
theorem xw_100 : Jvm.Cond.initialized "WakingLayers$Runner" ∈ x_ws := x_in 100 (by decide +kernel) rfl
theorem xw_101 : Jvm.Cond.initialized "WakingLayers$SmallWorld" ∈ x_ws := x_in 101 (by decide +kernel) rfl
theorem xw_102 : Jvm.Cond.initialized "WakingLayers$Asker" ∈ x_ws := x_in 102 (by decide +kernel) rfl
theorem xw_103 : Jvm.Cond.initialized "WakingLayersModel" ∈ x_ws := x_in 103 (by decide +kernel) rfl
theorem xw_104 : Jvm.Cond.initialized "java/lang/System" ∈ x_ws := x_in 104 (by decide +kernel) rfl
theorem xw_105 : Jvm.Cond.initialized "java/lang/String" ∈ x_ws := x_in 105 (by decide +kernel) rfl
theorem xw_106 : Jvm.Cond.initialized "java/lang/StringLatin1" ∈ x_ws := x_in 106 (by decide +kernel) rfl
theorem xw_107 : Jvm.Cond.initialized "jdk/internal/util/Preconditions" ∈ x_ws := x_in 107 (by decide +kernel) rfl
theorem xw_109 : Jvm.Cond.initialized "java/lang/Integer" ∈ x_ws := x_in 109 (by decide +kernel) rfl
theorem xw_126 : Jvm.Cond.fieldLink "WakingLayers$Sheets" (9 : Nat) "WakingLayers$Sheets" "laid" "[Z" ∈ x_ws := x_in 126 (by decide +kernel) rfl
theorem xw_127 : Jvm.Cond.fieldLink "WakingLayers$Sheets" (13 : Nat) "WakingLayers$Sheets" "lanes" "[I" ∈ x_ws := x_in 127 (by decide +kernel) rfl
theorem xw_128 : Jvm.Cond.fieldLink "WakingLayers$Sheets" (17 : Nat) "WakingLayers$Sheets" "lengths" "[I" ∈ x_ws := x_in 128 (by decide +kernel) rfl
theorem xw_129 : Jvm.Cond.fieldLink "WakingLayers$Sheets" (22 : Nat) "WakingLayers$Sheets" "items" "[[I" ∈ x_ws := x_in 129 (by decide +kernel) rfl
theorem xw_147 : Jvm.Cond.fieldLink "WakingLayers$Tape" (9 : Nat) "WakingLayers$Tape" "bytes" "[I" ∈ x_ws := x_in 147 (by decide +kernel) rfl
theorem xw_148 : Jvm.Cond.fieldLink "WakingLayers$Tape" (13 : Nat) "WakingLayers$Tape" "length" "I" ∈ x_ws := x_in 148 (by decide +kernel) rfl
theorem xw_149 : Jvm.Cond.fieldLink "WakingLayers$Tape" (26 : Nat) "WakingLayers$Tape" "sort" "I" ∈ x_ws := x_in 149 (by decide +kernel) rfl
theorem xw_150 : Jvm.Cond.fieldLink "WakingLayers$Tape" (23 : Nat) "WakingLayers$Tape" "start" "I" ∈ x_ws := x_in 150 (by decide +kernel) rfl
theorem xw_151 : Jvm.Cond.fieldLink "WakingLayers$Tape" (17 : Nat) "WakingLayers$Tape" "end" "I" ∈ x_ws := x_in 151 (by decide +kernel) rfl
theorem xw_152 : Jvm.Cond.fieldLink "WakingLayers$Tape" (40 : Nat) "WakingLayers$Tape" "value" "I" ∈ x_ws := x_in 152 (by decide +kernel) rfl
theorem xw_181 : Jvm.Cond.fieldLink "WakingLayers$Layer" (7 : Nat) "WakingLayers$Layer" "sort" "I" ∈ x_ws := x_in 181 (by decide +kernel) rfl
theorem xw_182 : Jvm.Cond.fieldLink "WakingLayers$Rows" (72 : Nat) "WakingLayers$Layer" "sort" "I" ∈ x_ws := x_in 182 (by decide +kernel) rfl
theorem xw_183 : Jvm.Cond.fieldLink "WakingLayers$Asker" (23 : Nat) "WakingLayers$Layer" "sort" "I" ∈ x_ws := x_in 183 (by decide +kernel) rfl
theorem xw_184 : Jvm.Cond.fieldLink "WakingLayers" (154 : Nat) "WakingLayers$Layer" "sort" "I" ∈ x_ws := x_in 184 (by decide +kernel) rfl
theorem xw_185 : Jvm.Cond.fieldLink "WakingLayers$Runner" (124 : Nat) "WakingLayers$Layer" "sort" "I" ∈ x_ws := x_in 185 (by decide +kernel) rfl
theorem xw_186 : Jvm.Cond.fieldLink "WakingLayers$Circumstances" (53 : Nat) "WakingLayers$Layer" "sort" "I" ∈ x_ws := x_in 186 (by decide +kernel) rfl
theorem xw_187 : Jvm.Cond.fieldLink "WakingLayers$Layer" (13 : Nat) "WakingLayers$Layer" "rank" "I" ∈ x_ws := x_in 187 (by decide +kernel) rfl
theorem xw_188 : Jvm.Cond.fieldLink "WakingLayers$Rows" (69 : Nat) "WakingLayers$Layer" "rank" "I" ∈ x_ws := x_in 188 (by decide +kernel) rfl
theorem xw_189 : Jvm.Cond.fieldLink "WakingLayers" (159 : Nat) "WakingLayers$Layer" "rank" "I" ∈ x_ws := x_in 189 (by decide +kernel) rfl
theorem xw_190 : Jvm.Cond.fieldLink "WakingLayers$Asker" (78 : Nat) "WakingLayers$Layer" "rank" "I" ∈ x_ws := x_in 190 (by decide +kernel) rfl
theorem xw_191 : Jvm.Cond.fieldLink "WakingLayers$Layer" (16 : Nat) "WakingLayers$Layer" "needs" "I" ∈ x_ws := x_in 191 (by decide +kernel) rfl
theorem xw_192 : Jvm.Cond.fieldLink "WakingLayers$Asker" (29 : Nat) "WakingLayers$Layer" "needs" "I" ∈ x_ws := x_in 192 (by decide +kernel) rfl
theorem xw_193 : Jvm.Cond.fieldLink "WakingLayers$Reader" (147 : Nat) "WakingLayers$Layer" "needs" "I" ∈ x_ws := x_in 193 (by decide +kernel) rfl
theorem xw_194 : Jvm.Cond.fieldLink "WakingLayers" (162 : Nat) "WakingLayers$Layer" "needs" "I" ∈ x_ws := x_in 194 (by decide +kernel) rfl
theorem xw_195 : Jvm.Cond.fieldLink "WakingLayers$Circumstances" (66 : Nat) "WakingLayers$Layer" "needs" "I" ∈ x_ws := x_in 195 (by decide +kernel) rfl
theorem xw_196 : Jvm.Cond.fieldLink "WakingLayers$Layer" (19 : Nat) "WakingLayers$Layer" "bars" "I" ∈ x_ws := x_in 196 (by decide +kernel) rfl
theorem xw_197 : Jvm.Cond.fieldLink "WakingLayers" (165 : Nat) "WakingLayers$Layer" "bars" "I" ∈ x_ws := x_in 197 (by decide +kernel) rfl
theorem xw_198 : Jvm.Cond.fieldLink "WakingLayers$Reader" (152 : Nat) "WakingLayers$Layer" "bars" "I" ∈ x_ws := x_in 198 (by decide +kernel) rfl
theorem xw_199 : Jvm.Cond.fieldLink "WakingLayers$Circumstances" (69 : Nat) "WakingLayers$Layer" "bars" "I" ∈ x_ws := x_in 199 (by decide +kernel) rfl
theorem xw_200 : Jvm.Cond.fieldLink "WakingLayers$Layer" (22 : Nat) "WakingLayers$Layer" "tested" "Z" ∈ x_ws := x_in 200 (by decide +kernel) rfl
theorem xw_201 : Jvm.Cond.fieldLink "WakingLayers$Layer" (26 : Nat) "WakingLayers$Layer" "testFact" "I" ∈ x_ws := x_in 201 (by decide +kernel) rfl
theorem xw_202 : Jvm.Cond.fieldLink "WakingLayers$Layer" (29 : Nat) "WakingLayers$Layer" "testSign" "C" ∈ x_ws := x_in 202 (by decide +kernel) rfl
theorem xw_203 : Jvm.Cond.fieldLink "WakingLayers$Layer" (33 : Nat) "WakingLayers$Layer" "testBound" "I" ∈ x_ws := x_in 203 (by decide +kernel) rfl
theorem xw_226 : Jvm.Cond.fieldLink "WakingLayers$Body" (9 : Nat) "WakingLayers$Body" "acts" "[I" ∈ x_ws := x_in 226 (by decide +kernel) rfl
theorem xw_227 : Jvm.Cond.fieldLink "WakingLayers$Runner" (102 : Nat) "WakingLayers$Body" "acts" "[I" ∈ x_ws := x_in 227 (by decide +kernel) rfl
theorem xw_228 : Jvm.Cond.fieldLink "WakingLayers$Body" (13 : Nat) "WakingLayers$Body" "firstNumbers" "[I" ∈ x_ws := x_in 228 (by decide +kernel) rfl
theorem xw_229 : Jvm.Cond.fieldLink "WakingLayers$Runner" (99 : Nat) "WakingLayers$Body" "firstNumbers" "[I" ∈ x_ws := x_in 229 (by decide +kernel) rfl
theorem xw_230 : Jvm.Cond.fieldLink "WakingLayers$Body" (16 : Nat) "WakingLayers$Body" "secondNumbers" "[I" ∈ x_ws := x_in 230 (by decide +kernel) rfl
theorem xw_231 : Jvm.Cond.fieldLink "WakingLayers$Runner" (109 : Nat) "WakingLayers$Body" "secondNumbers" "[I" ∈ x_ws := x_in 231 (by decide +kernel) rfl
theorem xw_232 : Jvm.Cond.fieldLink "WakingLayers$Body" (32 : Nat) "WakingLayers$Body" "actCount" "I" ∈ x_ws := x_in 232 (by decide +kernel) rfl
theorem xw_233 : Jvm.Cond.fieldLink "WakingLayers$Runner" (92 : Nat) "WakingLayers$Body" "actCount" "I" ∈ x_ws := x_in 233 (by decide +kernel) rfl
theorem xw_234 : Jvm.Cond.fieldLink "WakingLayers$Reader" (182 : Nat) "WakingLayers$Body" "actCount" "I" ∈ x_ws := x_in 234 (by decide +kernel) rfl
theorem xw_235 : Jvm.Cond.fieldLink "WakingLayers$Body" (19 : Nat) "WakingLayers$Body" "layer" "I" ∈ x_ws := x_in 235 (by decide +kernel) rfl
theorem xw_236 : Jvm.Cond.fieldLink "WakingLayers$Rows" (97 : Nat) "WakingLayers$Body" "layer" "I" ∈ x_ws := x_in 236 (by decide +kernel) rfl
theorem xw_237 : Jvm.Cond.fieldLink "WakingLayers$Program" (58 : Nat) "WakingLayers$Body" "layer" "I" ∈ x_ws := x_in 237 (by decide +kernel) rfl
theorem xw_238 : Jvm.Cond.fieldLink "WakingLayers$Body" (29 : Nat) "WakingLayers$Body" "way" "I" ∈ x_ws := x_in 238 (by decide +kernel) rfl
theorem xw_239 : Jvm.Cond.fieldLink "WakingLayers$Runner" (78 : Nat) "WakingLayers$Body" "way" "I" ∈ x_ws := x_in 239 (by decide +kernel) rfl
theorem xw_240 : Jvm.Cond.fieldLink "WakingLayers$Rows" (100 : Nat) "WakingLayers$Body" "way" "I" ∈ x_ws := x_in 240 (by decide +kernel) rfl
theorem xw_241 : Jvm.Cond.fieldLink "WakingLayers$Reader" (179 : Nat) "WakingLayers$Body" "way" "I" ∈ x_ws := x_in 241 (by decide +kernel) rfl
theorem xw_242 : Jvm.Cond.fieldLink "WakingLayers$Body" (23 : Nat) "WakingLayers$Body" "kind" "I" ∈ x_ws := x_in 242 (by decide +kernel) rfl
theorem xw_243 : Jvm.Cond.fieldLink "WakingLayers$Body" (26 : Nat) "WakingLayers$Body" "routine" "I" ∈ x_ws := x_in 243 (by decide +kernel) rfl
theorem xw_261 : Jvm.Cond.fieldLink "WakingLayers$Program" (9 : Nat) "WakingLayers$Program" "kindUnder" "[I" ∈ x_ws := x_in 261 (by decide +kernel) rfl
theorem xw_262 : Jvm.Cond.fieldLink "WakingLayers$Rows" (90 : Nat) "WakingLayers$Program" "kindUnder" "[I" ∈ x_ws := x_in 262 (by decide +kernel) rfl
theorem xw_263 : Jvm.Cond.fieldLink "WakingLayers$Program" (13 : Nat) "WakingLayers$Program" "thingKind" "[I" ∈ x_ws := x_in 263 (by decide +kernel) rfl
theorem xw_264 : Jvm.Cond.fieldLink "WakingLayers$Rows" (26 : Nat) "WakingLayers$Program" "thingKind" "[I" ∈ x_ws := x_in 264 (by decide +kernel) rfl
theorem xw_265 : Jvm.Cond.fieldLink "WakingLayers$Program" (16 : Nat) "WakingLayers$Program" "thingValue" "[I" ∈ x_ws := x_in 265 (by decide +kernel) rfl
theorem xw_266 : Jvm.Cond.fieldLink "WakingLayers$Runner" (106 : Nat) "WakingLayers$Program" "thingValue" "[I" ∈ x_ws := x_in 266 (by decide +kernel) rfl
theorem xw_268 : Jvm.Cond.fieldLink "WakingLayers$Rows" (54 : Nat) "WakingLayers$Program" "layers" "[LWakingLayers$Layer;" ∈ x_ws := x_in 268 (by decide +kernel) rfl
theorem xw_269 : Jvm.Cond.fieldLink "WakingLayers$Reader" (111 : Nat) "WakingLayers$Program" "layers" "[LWakingLayers$Layer;" ∈ x_ws := x_in 269 (by decide +kernel) rfl
theorem xw_270 : Jvm.Cond.fieldLink "WakingLayers$Asker" (39 : Nat) "WakingLayers$Program" "layers" "[LWakingLayers$Layer;" ∈ x_ws := x_in 270 (by decide +kernel) rfl
theorem xw_271 : Jvm.Cond.fieldLink "WakingLayers" (150 : Nat) "WakingLayers$Program" "layers" "[LWakingLayers$Layer;" ∈ x_ws := x_in 271 (by decide +kernel) rfl
theorem xw_272 : Jvm.Cond.fieldLink "WakingLayers$Runner" (120 : Nat) "WakingLayers$Program" "layers" "[LWakingLayers$Layer;" ∈ x_ws := x_in 272 (by decide +kernel) rfl
theorem xw_273 : Jvm.Cond.fieldLink "WakingLayers$Circumstances" (49 : Nat) "WakingLayers$Program" "layers" "[LWakingLayers$Layer;" ∈ x_ws := x_in 273 (by decide +kernel) rfl
theorem xw_274 : Jvm.Cond.fieldLink "WakingLayers$Program" (27 : Nat) "WakingLayers$Program" "bodies" "[LWakingLayers$Body;" ∈ x_ws := x_in 274 (by decide +kernel) rfl
theorem xw_275 : Jvm.Cond.fieldLink "WakingLayers$Rows" (82 : Nat) "WakingLayers$Program" "bodies" "[LWakingLayers$Body;" ∈ x_ws := x_in 275 (by decide +kernel) rfl
theorem xw_276 : Jvm.Cond.fieldLink "WakingLayers$Runner" (74 : Nat) "WakingLayers$Program" "bodies" "[LWakingLayers$Body;" ∈ x_ws := x_in 276 (by decide +kernel) rfl
theorem xw_277 : Jvm.Cond.fieldLink "WakingLayers$Reader" (158 : Nat) "WakingLayers$Program" "bodies" "[LWakingLayers$Body;" ∈ x_ws := x_in 277 (by decide +kernel) rfl
theorem xw_278 : Jvm.Cond.fieldLink "WakingLayers$Program" (40 : Nat) "WakingLayers$Program" "kindCount" "I" ∈ x_ws := x_in 278 (by decide +kernel) rfl
theorem xw_279 : Jvm.Cond.fieldLink "WakingLayers$Reader" (75 : Nat) "WakingLayers$Program" "kindCount" "I" ∈ x_ws := x_in 279 (by decide +kernel) rfl
theorem xw_280 : Jvm.Cond.fieldLink "WakingLayers" (265 : Nat) "WakingLayers$Program" "kindCount" "I" ∈ x_ws := x_in 280 (by decide +kernel) rfl
theorem xw_281 : Jvm.Cond.fieldLink "WakingLayers$Program" (33 : Nat) "WakingLayers$Program" "thingCount" "I" ∈ x_ws := x_in 281 (by decide +kernel) rfl
theorem xw_282 : Jvm.Cond.fieldLink "WakingLayers$Reader" (102 : Nat) "WakingLayers$Program" "thingCount" "I" ∈ x_ws := x_in 282 (by decide +kernel) rfl
theorem xw_283 : Jvm.Cond.fieldLink "WakingLayers" (268 : Nat) "WakingLayers$Program" "thingCount" "I" ∈ x_ws := x_in 283 (by decide +kernel) rfl
theorem xw_284 : Jvm.Cond.fieldLink "WakingLayers$Rows" (37 : Nat) "WakingLayers$Program" "layerCount" "I" ∈ x_ws := x_in 284 (by decide +kernel) rfl
theorem xw_285 : Jvm.Cond.fieldLink "WakingLayers$Program" (37 : Nat) "WakingLayers$Program" "layerCount" "I" ∈ x_ws := x_in 285 (by decide +kernel) rfl
theorem xw_286 : Jvm.Cond.fieldLink "WakingLayers$Reader" (108 : Nat) "WakingLayers$Program" "layerCount" "I" ∈ x_ws := x_in 286 (by decide +kernel) rfl
theorem xw_287 : Jvm.Cond.fieldLink "WakingLayers$Circumstances" (44 : Nat) "WakingLayers$Program" "layerCount" "I" ∈ x_ws := x_in 287 (by decide +kernel) rfl
theorem xw_288 : Jvm.Cond.fieldLink "WakingLayers" (271 : Nat) "WakingLayers$Program" "layerCount" "I" ∈ x_ws := x_in 288 (by decide +kernel) rfl
theorem xw_289 : Jvm.Cond.fieldLink "WakingLayers$Rows" (79 : Nat) "WakingLayers$Program" "bodyCount" "I" ∈ x_ws := x_in 289 (by decide +kernel) rfl
theorem xw_290 : Jvm.Cond.fieldLink "WakingLayers$Program" (52 : Nat) "WakingLayers$Program" "bodyCount" "I" ∈ x_ws := x_in 290 (by decide +kernel) rfl
theorem xw_291 : Jvm.Cond.fieldLink "WakingLayers" (139 : Nat) "WakingLayers$Program" "bodyCount" "I" ∈ x_ws := x_in 291 (by decide +kernel) rfl
theorem xw_292 : Jvm.Cond.fieldLink "WakingLayers$Reader" (155 : Nat) "WakingLayers$Program" "bodyCount" "I" ∈ x_ws := x_in 292 (by decide +kernel) rfl
theorem xw_293 : Jvm.Cond.fieldLink "WakingLayers$Program" (43 : Nat) "WakingLayers$Program" "keptKinds" "I" ∈ x_ws := x_in 293 (by decide +kernel) rfl
theorem xw_294 : Jvm.Cond.fieldLink "WakingLayers$Program" (46 : Nat) "WakingLayers$Program" "keptThings" "I" ∈ x_ws := x_in 294 (by decide +kernel) rfl
theorem xw_295 : Jvm.Cond.fieldLink "WakingLayers$Program" (49 : Nat) "WakingLayers$Program" "keptLayers" "I" ∈ x_ws := x_in 295 (by decide +kernel) rfl
theorem xw_296 : Jvm.Cond.fieldLink "WakingLayers$Program" (55 : Nat) "WakingLayers$Program" "keptBodies" "I" ∈ x_ws := x_in 296 (by decide +kernel) rfl
theorem xw_330 : Jvm.Cond.fieldLink "WakingLayers$Reader" (9 : Nat) "WakingLayers$Reader" "tape" "LWakingLayers$Tape;" ∈ x_ws := x_in 330 (by decide +kernel) rfl
theorem xw_331 : Jvm.Cond.fieldLink "WakingLayers$Reader" (15 : Nat) "WakingLayers$Reader" "program" "LWakingLayers$Program;" ∈ x_ws := x_in 331 (by decide +kernel) rfl
theorem xw_332 : Jvm.Cond.fieldLink "WakingLayers$Reader" (23 : Nat) "WakingLayers$Reader" "faulty" "Z" ∈ x_ws := x_in 332 (by decide +kernel) rfl
theorem xw_333 : Jvm.Cond.fieldLink "WakingLayers$Reader" (50 : Nat) "WakingLayers$Reader" "faultPlace" "I" ∈ x_ws := x_in 333 (by decide +kernel) rfl
theorem xw_334 : Jvm.Cond.fieldLink "WakingLayers$Reader" (19 : Nat) "WakingLayers$Reader" "faultNumber" "I" ∈ x_ws := x_in 334 (by decide +kernel) rfl
theorem xw_352 : Jvm.Cond.fieldLink "WakingLayers$Circumstances" (21 : Nat) "WakingLayers$Circumstances" "program" "LWakingLayers$Program;" ∈ x_ws := x_in 352 (by decide +kernel) rfl
theorem xw_353 : Jvm.Cond.fieldLink "WakingLayers$Circumstances" (11 : Nat) "WakingLayers$Circumstances" "told" "[I" ∈ x_ws := x_in 353 (by decide +kernel) rfl
theorem xw_354 : Jvm.Cond.fieldLink "WakingLayers$Circumstances" (15 : Nat) "WakingLayers$Circumstances" "wokenLayers" "[I" ∈ x_ws := x_in 354 (by decide +kernel) rfl
theorem xw_355 : Jvm.Cond.fieldLink "WakingLayers$Circumstances" (18 : Nat) "WakingLayers$Circumstances" "wokenThings" "[I" ∈ x_ws := x_in 355 (by decide +kernel) rfl
theorem xw_356 : Jvm.Cond.fieldLink "WakingLayers$Circumstances" (25 : Nat) "WakingLayers$Circumstances" "open" "I" ∈ x_ws := x_in 356 (by decide +kernel) rfl
theorem xw_357 : Jvm.Cond.fieldLink "WakingLayers$Circumstances" (29 : Nat) "WakingLayers$Circumstances" "found" "I" ∈ x_ws := x_in 357 (by decide +kernel) rfl
theorem xw_377 : Jvm.Cond.fieldLink "WakingLayers$Rows" (18 : Nat) "WakingLayers$Rows" "program" "LWakingLayers$Program;" ∈ x_ws := x_in 377 (by decide +kernel) rfl
theorem xw_378 : Jvm.Cond.fieldLink "WakingLayers$Rows" (22 : Nat) "WakingLayers$Rows" "circumstances" "LWakingLayers$Circumstances;" ∈ x_ws := x_in 378 (by decide +kernel) rfl
theorem xw_379 : Jvm.Cond.fieldLink "WakingLayers$Rows" (9 : Nat) "WakingLayers$Rows" "weights" "[I" ∈ x_ws := x_in 379 (by decide +kernel) rfl
theorem xw_380 : Jvm.Cond.fieldLink "WakingLayers$Rows" (15 : Nat) "WakingLayers$Rows" "fitting" "[I" ∈ x_ws := x_in 380 (by decide +kernel) rfl
theorem xw_381 : Jvm.Cond.fieldLink "WakingLayers$Rows" (33 : Nat) "WakingLayers$Rows" "fittingCount" "I" ∈ x_ws := x_in 381 (by decide +kernel) rfl
theorem xw_400 : Jvm.Cond.fieldLink "WakingLayers$Runner" (28 : Nat) "WakingLayers$Runner" "program" "LWakingLayers$Program;" ∈ x_ws := x_in 400 (by decide +kernel) rfl
theorem xw_401 : Jvm.Cond.fieldLink "WakingLayers$Runner" (32 : Nat) "WakingLayers$Runner" "circumstances" "LWakingLayers$Circumstances;" ∈ x_ws := x_in 401 (by decide +kernel) rfl
theorem xw_402 : Jvm.Cond.fieldLink "WakingLayers$Runner" (36 : Nat) "WakingLayers$Runner" "rows" "LWakingLayers$Rows;" ∈ x_ws := x_in 402 (by decide +kernel) rfl
theorem xw_403 : Jvm.Cond.fieldLink "WakingLayers$Runner" (15 : Nat) "WakingLayers$Runner" "rowAt" "[[I" ∈ x_ws := x_in 403 (by decide +kernel) rfl
theorem xw_404 : Jvm.Cond.fieldLink "WakingLayers$Runner" (18 : Nat) "WakingLayers$Runner" "rowLengthAt" "[I" ∈ x_ws := x_in 404 (by decide +kernel) rfl
theorem xw_405 : Jvm.Cond.fieldLink "WakingLayers$Runner" (22 : Nat) "WakingLayers$Runner" "thingAt" "[I" ∈ x_ws := x_in 405 (by decide +kernel) rfl
theorem xw_406 : Jvm.Cond.fieldLink "WakingLayers$Runner" (25 : Nat) "WakingLayers$Runner" "begun" "[I" ∈ x_ws := x_in 406 (by decide +kernel) rfl
theorem xw_407 : Jvm.Cond.fieldLink "WakingLayers$Runner" (40 : Nat) "WakingLayers$Runner" "begunCount" "I" ∈ x_ws := x_in 407 (by decide +kernel) rfl
theorem xw_408 : Jvm.Cond.fieldLink "WakingLayers$Runner" (45 : Nat) "WakingLayers$Runner" "spent" "Z" ∈ x_ws := x_in 408 (by decide +kernel) rfl
theorem xw_435 : Jvm.Cond.fieldLink "WakingLayers$SmallWorld" (25 : Nat) "WakingLayers$SmallWorld" "circumstances" "LWakingLayers$Circumstances;" ∈ x_ws := x_in 435 (by decide +kernel) rfl
theorem xw_436 : Jvm.Cond.fieldLink "WakingLayers$SmallWorld" (29 : Nat) "WakingLayers$SmallWorld" "runner" "LWakingLayers$Runner;" ∈ x_ws := x_in 436 (by decide +kernel) rfl
theorem xw_437 : Jvm.Cond.fieldLink "WakingLayers$SmallWorld" (11 : Nat) "WakingLayers$SmallWorld" "facts" "[I" ∈ x_ws := x_in 437 (by decide +kernel) rfl
theorem xw_438 : Jvm.Cond.fieldLink "WakingLayers$SmallWorld" (17 : Nat) "WakingLayers$SmallWorld" "gathered" "[Z" ∈ x_ws := x_in 438 (by decide +kernel) rfl
theorem xw_456 : Jvm.Cond.fieldLink "WakingLayers$Asker" (15 : Nat) "WakingLayers$Asker" "program" "LWakingLayers$Program;" ∈ x_ws := x_in 456 (by decide +kernel) rfl
theorem xw_457 : Jvm.Cond.fieldLink "WakingLayers$Asker" (19 : Nat) "WakingLayers$Asker" "circumstances" "LWakingLayers$Circumstances;" ∈ x_ws := x_in 457 (by decide +kernel) rfl
theorem xw_458 : Jvm.Cond.fieldLink "WakingLayers$Asker" (11 : Nat) "WakingLayers$Asker" "traced" "[I" ∈ x_ws := x_in 458 (by decide +kernel) rfl
theorem xw_459 : Jvm.Cond.fieldLink "WakingLayers$Asker" (35 : Nat) "WakingLayers$Asker" "tracedCount" "I" ∈ x_ws := x_in 459 (by decide +kernel) rfl
theorem xw_469 : Jvm.Cond.fieldLink "WakingLayers" (10 : Nat) "WakingLayers" "sheets" "LWakingLayers$Sheets;" ∈ x_ws := x_in 469 (by decide +kernel) rfl
theorem xw_470 : Jvm.Cond.fieldLink "WakingLayers" (19 : Nat) "WakingLayers" "tape" "LWakingLayers$Tape;" ∈ x_ws := x_in 470 (by decide +kernel) rfl
theorem xw_471 : Jvm.Cond.fieldLink "WakingLayers" (26 : Nat) "WakingLayers" "program" "LWakingLayers$Program;" ∈ x_ws := x_in 471 (by decide +kernel) rfl
theorem xw_472 : Jvm.Cond.fieldLink "WakingLayers" (35 : Nat) "WakingLayers" "reader" "LWakingLayers$Reader;" ∈ x_ws := x_in 472 (by decide +kernel) rfl
theorem xw_473 : Jvm.Cond.fieldLink "WakingLayers" (44 : Nat) "WakingLayers" "circumstances" "LWakingLayers$Circumstances;" ∈ x_ws := x_in 473 (by decide +kernel) rfl
theorem xw_474 : Jvm.Cond.fieldLink "WakingLayers" (53 : Nat) "WakingLayers" "rows" "LWakingLayers$Rows;" ∈ x_ws := x_in 474 (by decide +kernel) rfl
theorem xw_475 : Jvm.Cond.fieldLink "WakingLayers" (57 : Nat) "WakingLayers" "shownRow" "[I" ∈ x_ws := x_in 475 (by decide +kernel) rfl
theorem xw_476 : Jvm.Cond.fieldLink "WakingLayers" (66 : Nat) "WakingLayers" "runner" "LWakingLayers$Runner;" ∈ x_ws := x_in 476 (by decide +kernel) rfl
theorem xw_477 : Jvm.Cond.fieldLink "WakingLayers" (75 : Nat) "WakingLayers" "smallWorld" "LWakingLayers$SmallWorld;" ∈ x_ws := x_in 477 (by decide +kernel) rfl
theorem xw_478 : Jvm.Cond.fieldLink "WakingLayers" (82 : Nat) "WakingLayers" "asker" "LWakingLayers$Asker;" ∈ x_ws := x_in 478 (by decide +kernel) rfl
theorem xw_479 : Jvm.Cond.fieldLink "WakingLayers" (285 : Nat) "WakingLayers" "latestFinding" "I" ∈ x_ws := x_in 479 (by decide +kernel) rfl
theorem xw_506 : Jvm.Cond.code ({ cls := "WakingLayers", name := "sheet", desc := "(III)I" } : Jvm.MethodName) prog_1_method_2_code (4 : Nat) (Option.some Jvm.ClassFile.FieldType.int) ∈ x_ws := x_in 506 (by decide +kernel) rfl
theorem xw_507 : Jvm.Cond.methodLink "WakingLayers" (86 : Nat) ({ cls := "WakingLayers$Sheets", name := "isSheet", desc := "(I)Z" } : Jvm.MethodName) ∈ x_ws := x_in 507 (by decide +kernel) rfl
theorem xw_508 : Jvm.Cond.static ({ cls := "WakingLayers$Sheets", name := "isSheet", desc := "(I)Z" } : Jvm.MethodName) ∈ x_ws := x_in 508 (by decide +kernel) rfl
theorem xw_509 : Jvm.Cond.code ({ cls := "WakingLayers$Sheets", name := "isSheet", desc := "(I)Z" } : Jvm.MethodName) prog_10_method_2_code (1 : Nat) (Option.some Jvm.ClassFile.FieldType.boolean) ∈ x_ws := x_in 509 (by decide +kernel) rfl
theorem xw_510 : Jvm.Cond.methodLink "WakingLayers" (90 : Nat) ({ cls := "WakingLayers$Sheets", name := "isLane", desc := "(I)Z" } : Jvm.MethodName) ∈ x_ws := x_in 510 (by decide +kernel) rfl
theorem xw_511 : Jvm.Cond.static ({ cls := "WakingLayers$Sheets", name := "isLane", desc := "(I)Z" } : Jvm.MethodName) ∈ x_ws := x_in 511 (by decide +kernel) rfl
theorem xw_512 : Jvm.Cond.code ({ cls := "WakingLayers$Sheets", name := "isLane", desc := "(I)Z" } : Jvm.MethodName) prog_10_method_3_code (1 : Nat) (Option.some Jvm.ClassFile.FieldType.boolean) ∈ x_ws := x_in 512 (by decide +kernel) rfl
theorem xw_513 : Jvm.Cond.constant "WakingLayers" (93 : Nat) (-1000001 : Int32) ∈ x_ws := x_in 513 (by decide +kernel) rfl
theorem xw_514 : Jvm.Cond.methodLink "WakingLayers" (94 : Nat) ({ cls := "WakingLayers", name := "finding", desc := "(I)I" } : Jvm.MethodName) ∈ x_ws := x_in 514 (by decide +kernel) rfl
theorem xw_516 : Jvm.Cond.instanceMethod ({ cls := "WakingLayers", name := "finding", desc := "(I)I" } : Jvm.MethodName) ∈ x_ws := x_in 516 (by decide +kernel) rfl
theorem xw_517 : Jvm.Cond.code ({ cls := "WakingLayers", name := "finding", desc := "(I)I" } : Jvm.MethodName) prog_1_method_26_code (2 : Nat) (Option.some Jvm.ClassFile.FieldType.int) ∈ x_ws := x_in 517 (by decide +kernel) rfl
theorem xw_518 : Jvm.Cond.constant "WakingLayers" (288 : Nat) (-1000010 : Int32) ∈ x_ws := x_in 518 (by decide +kernel) rfl
theorem xw_519 : Jvm.Cond.methodLink "WakingLayers" (98 : Nat) ({ cls := "WakingLayers$Sheets", name := "lay", desc := "(III)V" } : Jvm.MethodName) ∈ x_ws := x_in 519 (by decide +kernel) rfl
theorem xw_520 : Jvm.Cond.instanceMethod ({ cls := "WakingLayers$Sheets", name := "lay", desc := "(III)V" } : Jvm.MethodName) ∈ x_ws := x_in 520 (by decide +kernel) rfl
theorem xw_521 : Jvm.Cond.selects "WakingLayers$Sheets" ({ cls := "WakingLayers$Sheets", name := "lay", desc := "(III)V" } : Jvm.MethodName) ({ cls := "WakingLayers$Sheets", name := "lay", desc := "(III)V" } : Jvm.MethodName) ∈ x_ws := x_in 521 (by decide +kernel) rfl
theorem xw_522 : Jvm.Cond.code ({ cls := "WakingLayers$Sheets", name := "lay", desc := "(III)V" } : Jvm.MethodName) prog_10_method_7_code (5 : Nat) (Option.none : Option Jvm.ClassFile.FieldType) ∈ x_ws := x_in 522 (by decide +kernel) rfl
theorem xw_523 : Jvm.Cond.methodLink "WakingLayers" (102 : Nat) ({ cls := "WakingLayers", name := "withoutFinding", desc := "(I)I" } : Jvm.MethodName) ∈ x_ws := x_in 523 (by decide +kernel) rfl
theorem xw_525 : Jvm.Cond.instanceMethod ({ cls := "WakingLayers", name := "withoutFinding", desc := "(I)I" } : Jvm.MethodName) ∈ x_ws := x_in 525 (by decide +kernel) rfl
theorem xw_526 : Jvm.Cond.code ({ cls := "WakingLayers", name := "withoutFinding", desc := "(I)I" } : Jvm.MethodName) prog_1_method_27_code (2 : Nat) (Option.some Jvm.ClassFile.FieldType.int) ∈ x_ws := x_in 526 (by decide +kernel) rfl
theorem xw_530 : Jvm.Cond.code ({ cls := "WakingLayers", name := "set", desc := "(III)I" } : Jvm.MethodName) prog_1_method_3_code (4 : Nat) (Option.some Jvm.ClassFile.FieldType.int) ∈ x_ws := x_in 530 (by decide +kernel) rfl
theorem xw_531 : Jvm.Cond.methodLink "WakingLayers" (105 : Nat) ({ cls := "WakingLayers$Sheets", name := "isMissing", desc := "(I)Z" } : Jvm.MethodName) ∈ x_ws := x_in 531 (by decide +kernel) rfl
theorem xw_532 : Jvm.Cond.instanceMethod ({ cls := "WakingLayers$Sheets", name := "isMissing", desc := "(I)Z" } : Jvm.MethodName) ∈ x_ws := x_in 532 (by decide +kernel) rfl
theorem xw_533 : Jvm.Cond.selects "WakingLayers$Sheets" ({ cls := "WakingLayers$Sheets", name := "isMissing", desc := "(I)Z" } : Jvm.MethodName) ({ cls := "WakingLayers$Sheets", name := "isMissing", desc := "(I)Z" } : Jvm.MethodName) ∈ x_ws := x_in 533 (by decide +kernel) rfl
theorem xw_534 : Jvm.Cond.code ({ cls := "WakingLayers$Sheets", name := "isMissing", desc := "(I)Z" } : Jvm.MethodName) prog_10_method_4_code (2 : Nat) (Option.some Jvm.ClassFile.FieldType.boolean) ∈ x_ws := x_in 534 (by decide +kernel) rfl
theorem xw_535 : Jvm.Cond.methodLink "WakingLayers" (108 : Nat) ({ cls := "WakingLayers$Sheets", name := "hasPlaces", desc := "(III)Z" } : Jvm.MethodName) ∈ x_ws := x_in 535 (by decide +kernel) rfl
theorem xw_536 : Jvm.Cond.instanceMethod ({ cls := "WakingLayers$Sheets", name := "hasPlaces", desc := "(III)Z" } : Jvm.MethodName) ∈ x_ws := x_in 536 (by decide +kernel) rfl
theorem xw_537 : Jvm.Cond.selects "WakingLayers$Sheets" ({ cls := "WakingLayers$Sheets", name := "hasPlaces", desc := "(III)Z" } : Jvm.MethodName) ({ cls := "WakingLayers$Sheets", name := "hasPlaces", desc := "(III)Z" } : Jvm.MethodName) ∈ x_ws := x_in 537 (by decide +kernel) rfl
theorem xw_538 : Jvm.Cond.code ({ cls := "WakingLayers$Sheets", name := "hasPlaces", desc := "(III)Z" } : Jvm.MethodName) prog_10_method_6_code (5 : Nat) (Option.some Jvm.ClassFile.FieldType.boolean) ∈ x_ws := x_in 538 (by decide +kernel) rfl
theorem xw_539 : Jvm.Cond.methodLink "WakingLayers" (112 : Nat) ({ cls := "WakingLayers$Sheets", name := "put", desc := "(III)I" } : Jvm.MethodName) ∈ x_ws := x_in 539 (by decide +kernel) rfl
theorem xw_540 : Jvm.Cond.instanceMethod ({ cls := "WakingLayers$Sheets", name := "put", desc := "(III)I" } : Jvm.MethodName) ∈ x_ws := x_in 540 (by decide +kernel) rfl
theorem xw_541 : Jvm.Cond.selects "WakingLayers$Sheets" ({ cls := "WakingLayers$Sheets", name := "put", desc := "(III)I" } : Jvm.MethodName) ({ cls := "WakingLayers$Sheets", name := "put", desc := "(III)I" } : Jvm.MethodName) ∈ x_ws := x_in 541 (by decide +kernel) rfl
theorem xw_542 : Jvm.Cond.code ({ cls := "WakingLayers$Sheets", name := "put", desc := "(III)I" } : Jvm.MethodName) prog_10_method_8_code (5 : Nat) (Option.some Jvm.ClassFile.FieldType.int) ∈ x_ws := x_in 542 (by decide +kernel) rfl
theorem xw_546 : Jvm.Cond.code ({ cls := "WakingLayers", name := "copy", desc := "(IIIII)I" } : Jvm.MethodName) prog_1_method_4_code (6 : Nat) (Option.some Jvm.ClassFile.FieldType.int) ∈ x_ws := x_in 546 (by decide +kernel) rfl
theorem xw_547 : Jvm.Cond.methodLink "WakingLayers" (116 : Nat) ({ cls := "WakingLayers$Sheets", name := "haveOneLane", desc := "(II)Z" } : Jvm.MethodName) ∈ x_ws := x_in 547 (by decide +kernel) rfl
theorem xw_548 : Jvm.Cond.instanceMethod ({ cls := "WakingLayers$Sheets", name := "haveOneLane", desc := "(II)Z" } : Jvm.MethodName) ∈ x_ws := x_in 548 (by decide +kernel) rfl
theorem xw_549 : Jvm.Cond.selects "WakingLayers$Sheets" ({ cls := "WakingLayers$Sheets", name := "haveOneLane", desc := "(II)Z" } : Jvm.MethodName) ({ cls := "WakingLayers$Sheets", name := "haveOneLane", desc := "(II)Z" } : Jvm.MethodName) ∈ x_ws := x_in 549 (by decide +kernel) rfl
theorem xw_550 : Jvm.Cond.code ({ cls := "WakingLayers$Sheets", name := "haveOneLane", desc := "(II)Z" } : Jvm.MethodName) prog_10_method_5_code (3 : Nat) (Option.some Jvm.ClassFile.FieldType.boolean) ∈ x_ws := x_in 550 (by decide +kernel) rfl
theorem xw_551 : Jvm.Cond.methodLink "WakingLayers" (120 : Nat) ({ cls := "WakingLayers$Sheets", name := "move", desc := "(IIIII)V" } : Jvm.MethodName) ∈ x_ws := x_in 551 (by decide +kernel) rfl
theorem xw_552 : Jvm.Cond.instanceMethod ({ cls := "WakingLayers$Sheets", name := "move", desc := "(IIIII)V" } : Jvm.MethodName) ∈ x_ws := x_in 552 (by decide +kernel) rfl
theorem xw_553 : Jvm.Cond.selects "WakingLayers$Sheets" ({ cls := "WakingLayers$Sheets", name := "move", desc := "(IIIII)V" } : Jvm.MethodName) ({ cls := "WakingLayers$Sheets", name := "move", desc := "(IIIII)V" } : Jvm.MethodName) ∈ x_ws := x_in 553 (by decide +kernel) rfl
theorem xw_554 : Jvm.Cond.code ({ cls := "WakingLayers$Sheets", name := "move", desc := "(IIIII)V" } : Jvm.MethodName) prog_10_method_10_code (6 : Nat) (Option.none : Option Jvm.ClassFile.FieldType) ∈ x_ws := x_in 554 (by decide +kernel) rfl
theorem xw_556 : Jvm.Cond.static ({ cls := "java/lang/System", name := "arraycopy", desc := "(Ljava/lang/Object;ILjava/lang/Object;II)V" } : Jvm.MethodName) ∈ x_ws := x_in 556 (by decide +kernel) rfl
theorem xw_557 : Jvm.Cond.native ({ cls := "java/lang/System", name := "arraycopy", desc := "(Ljava/lang/Object;ILjava/lang/Object;II)V" } : Jvm.MethodName) ∈ x_ws := x_in 557 (by decide +kernel) rfl
theorem xw_561 : Jvm.Cond.code ({ cls := "WakingLayers", name := "drop", desc := "(I)I" } : Jvm.MethodName) prog_1_method_5_code (2 : Nat) (Option.some Jvm.ClassFile.FieldType.int) ∈ x_ws := x_in 561 (by decide +kernel) rfl
theorem xw_562 : Jvm.Cond.methodLink "WakingLayers" (124 : Nat) ({ cls := "WakingLayers$Sheets", name := "lose", desc := "(I)I" } : Jvm.MethodName) ∈ x_ws := x_in 562 (by decide +kernel) rfl
theorem xw_563 : Jvm.Cond.instanceMethod ({ cls := "WakingLayers$Sheets", name := "lose", desc := "(I)I" } : Jvm.MethodName) ∈ x_ws := x_in 563 (by decide +kernel) rfl
theorem xw_564 : Jvm.Cond.selects "WakingLayers$Sheets" ({ cls := "WakingLayers$Sheets", name := "lose", desc := "(I)I" } : Jvm.MethodName) ({ cls := "WakingLayers$Sheets", name := "lose", desc := "(I)I" } : Jvm.MethodName) ∈ x_ws := x_in 564 (by decide +kernel) rfl
theorem xw_565 : Jvm.Cond.code ({ cls := "WakingLayers$Sheets", name := "lose", desc := "(I)I" } : Jvm.MethodName) prog_10_method_11_code (2 : Nat) (Option.some Jvm.ClassFile.FieldType.int) ∈ x_ws := x_in 565 (by decide +kernel) rfl
theorem xw_569 : Jvm.Cond.code ({ cls := "WakingLayers", name := "feed", desc := "(JI)I" } : Jvm.MethodName) prog_1_method_6_code (4 : Nat) (Option.some Jvm.ClassFile.FieldType.int) ∈ x_ws := x_in 569 (by decide +kernel) rfl
theorem xw_570 : Jvm.Cond.methodLink "WakingLayers" (127 : Nat) ({ cls := "WakingLayers$Tape", name := "hasRoom", desc := "(I)Z" } : Jvm.MethodName) ∈ x_ws := x_in 570 (by decide +kernel) rfl
theorem xw_571 : Jvm.Cond.instanceMethod ({ cls := "WakingLayers$Tape", name := "hasRoom", desc := "(I)Z" } : Jvm.MethodName) ∈ x_ws := x_in 571 (by decide +kernel) rfl
theorem xw_572 : Jvm.Cond.selects "WakingLayers$Tape" ({ cls := "WakingLayers$Tape", name := "hasRoom", desc := "(I)Z" } : Jvm.MethodName) ({ cls := "WakingLayers$Tape", name := "hasRoom", desc := "(I)Z" } : Jvm.MethodName) ∈ x_ws := x_in 572 (by decide +kernel) rfl
theorem xw_573 : Jvm.Cond.code ({ cls := "WakingLayers$Tape", name := "hasRoom", desc := "(I)Z" } : Jvm.MethodName) prog_12_method_3_code (2 : Nat) (Option.some Jvm.ClassFile.FieldType.boolean) ∈ x_ws := x_in 573 (by decide +kernel) rfl
theorem xw_574 : Jvm.Cond.constant "WakingLayers" (130 : Nat) (-1000003 : Int32) ∈ x_ws := x_in 574 (by decide +kernel) rfl
theorem xw_575 : Jvm.Cond.methodLink "WakingLayers" (131 : Nat) ({ cls := "WakingLayers$Tape", name := "append", desc := "(JI)I" } : Jvm.MethodName) ∈ x_ws := x_in 575 (by decide +kernel) rfl
theorem xw_576 : Jvm.Cond.instanceMethod ({ cls := "WakingLayers$Tape", name := "append", desc := "(JI)I" } : Jvm.MethodName) ∈ x_ws := x_in 576 (by decide +kernel) rfl
theorem xw_577 : Jvm.Cond.selects "WakingLayers$Tape" ({ cls := "WakingLayers$Tape", name := "append", desc := "(JI)I" } : Jvm.MethodName) ({ cls := "WakingLayers$Tape", name := "append", desc := "(JI)I" } : Jvm.MethodName) ∈ x_ws := x_in 577 (by decide +kernel) rfl
theorem xw_578 : Jvm.Cond.code ({ cls := "WakingLayers$Tape", name := "append", desc := "(JI)I" } : Jvm.MethodName) prog_12_method_4_code (5 : Nat) (Option.some Jvm.ClassFile.FieldType.int) ∈ x_ws := x_in 578 (by decide +kernel) rfl
theorem xw_582 : Jvm.Cond.code ({ cls := "WakingLayers", name := "read", desc := "()I" } : Jvm.MethodName) prog_1_method_7_code (2 : Nat) (Option.some Jvm.ClassFile.FieldType.int) ∈ x_ws := x_in 582 (by decide +kernel) rfl
theorem xw_583 : Jvm.Cond.methodLink "WakingLayers" (135 : Nat) ({ cls := "WakingLayers$Reader", name := "readTape", desc := "()I" } : Jvm.MethodName) ∈ x_ws := x_in 583 (by decide +kernel) rfl
theorem xw_584 : Jvm.Cond.instanceMethod ({ cls := "WakingLayers$Reader", name := "readTape", desc := "()I" } : Jvm.MethodName) ∈ x_ws := x_in 584 (by decide +kernel) rfl
theorem xw_585 : Jvm.Cond.selects "WakingLayers$Reader" ({ cls := "WakingLayers$Reader", name := "readTape", desc := "()I" } : Jvm.MethodName) ({ cls := "WakingLayers$Reader", name := "readTape", desc := "()I" } : Jvm.MethodName) ∈ x_ws := x_in 585 (by decide +kernel) rfl
theorem xw_586 : Jvm.Cond.code ({ cls := "WakingLayers$Reader", name := "readTape", desc := "()I" } : Jvm.MethodName) prog_7_method_3_code (2 : Nat) (Option.some Jvm.ClassFile.FieldType.int) ∈ x_ws := x_in 586 (by decide +kernel) rfl
theorem xw_587 : Jvm.Cond.methodLink "WakingLayers$Reader" (27 : Nat) ({ cls := "WakingLayers$Program", name := "keepCounts", desc := "()V" } : Jvm.MethodName) ∈ x_ws := x_in 587 (by decide +kernel) rfl
theorem xw_588 : Jvm.Cond.instanceMethod ({ cls := "WakingLayers$Program", name := "keepCounts", desc := "()V" } : Jvm.MethodName) ∈ x_ws := x_in 588 (by decide +kernel) rfl
theorem xw_589 : Jvm.Cond.selects "WakingLayers$Program" ({ cls := "WakingLayers$Program", name := "keepCounts", desc := "()V" } : Jvm.MethodName) ({ cls := "WakingLayers$Program", name := "keepCounts", desc := "()V" } : Jvm.MethodName) ∈ x_ws := x_in 589 (by decide +kernel) rfl
theorem xw_590 : Jvm.Cond.code ({ cls := "WakingLayers$Program", name := "keepCounts", desc := "()V" } : Jvm.MethodName) prog_6_method_6_code (1 : Nat) (Option.none : Option Jvm.ClassFile.FieldType) ∈ x_ws := x_in 590 (by decide +kernel) rfl
theorem xw_591 : Jvm.Cond.methodLink "WakingLayers$Reader" (32 : Nat) ({ cls := "WakingLayers$Tape", name := "firstToken", desc := "()V" } : Jvm.MethodName) ∈ x_ws := x_in 591 (by decide +kernel) rfl
theorem xw_592 : Jvm.Cond.instanceMethod ({ cls := "WakingLayers$Tape", name := "firstToken", desc := "()V" } : Jvm.MethodName) ∈ x_ws := x_in 592 (by decide +kernel) rfl
theorem xw_593 : Jvm.Cond.selects "WakingLayers$Tape" ({ cls := "WakingLayers$Tape", name := "firstToken", desc := "()V" } : Jvm.MethodName) ({ cls := "WakingLayers$Tape", name := "firstToken", desc := "()V" } : Jvm.MethodName) ∈ x_ws := x_in 593 (by decide +kernel) rfl
theorem xw_594 : Jvm.Cond.code ({ cls := "WakingLayers$Tape", name := "firstToken", desc := "()V" } : Jvm.MethodName) prog_12_method_6_code (1 : Nat) (Option.none : Option Jvm.ClassFile.FieldType) ∈ x_ws := x_in 594 (by decide +kernel) rfl
theorem xw_595 : Jvm.Cond.methodLink "WakingLayers$Tape" (20 : Nat) ({ cls := "WakingLayers$Tape", name := "nextToken", desc := "()V" } : Jvm.MethodName) ∈ x_ws := x_in 595 (by decide +kernel) rfl
theorem xw_596 : Jvm.Cond.instanceMethod ({ cls := "WakingLayers$Tape", name := "nextToken", desc := "()V" } : Jvm.MethodName) ∈ x_ws := x_in 596 (by decide +kernel) rfl
theorem xw_597 : Jvm.Cond.selects "WakingLayers$Tape" ({ cls := "WakingLayers$Tape", name := "nextToken", desc := "()V" } : Jvm.MethodName) ({ cls := "WakingLayers$Tape", name := "nextToken", desc := "()V" } : Jvm.MethodName) ∈ x_ws := x_in 597 (by decide +kernel) rfl
theorem xw_598 : Jvm.Cond.code ({ cls := "WakingLayers$Tape", name := "nextToken", desc := "()V" } : Jvm.MethodName) prog_12_method_7_code (1 : Nat) (Option.none : Option Jvm.ClassFile.FieldType) ∈ x_ws := x_in 598 (by decide +kernel) rfl
theorem xw_599 : Jvm.Cond.methodLink "WakingLayers$Tape" (29 : Nat) ({ cls := "WakingLayers$Tape", name := "sortOf", desc := "(I)I" } : Jvm.MethodName) ∈ x_ws := x_in 599 (by decide +kernel) rfl
theorem xw_600 : Jvm.Cond.static ({ cls := "WakingLayers$Tape", name := "sortOf", desc := "(I)I" } : Jvm.MethodName) ∈ x_ws := x_in 600 (by decide +kernel) rfl
theorem xw_601 : Jvm.Cond.code ({ cls := "WakingLayers$Tape", name := "sortOf", desc := "(I)I" } : Jvm.MethodName) prog_12_method_8_code (2 : Nat) (Option.some Jvm.ClassFile.FieldType.int) ∈ x_ws := x_in 601 (by decide +kernel) rfl
theorem xw_602 : Jvm.Cond.methodLink "WakingLayers$Tape" (33 : Nat) ({ cls := "WakingLayers$Tape", name := "endOfRun", desc := "(CC)I" } : Jvm.MethodName) ∈ x_ws := x_in 602 (by decide +kernel) rfl
theorem xw_604 : Jvm.Cond.instanceMethod ({ cls := "WakingLayers$Tape", name := "endOfRun", desc := "(CC)I" } : Jvm.MethodName) ∈ x_ws := x_in 604 (by decide +kernel) rfl
theorem xw_605 : Jvm.Cond.code ({ cls := "WakingLayers$Tape", name := "endOfRun", desc := "(CC)I" } : Jvm.MethodName) prog_12_method_9_code (4 : Nat) (Option.some Jvm.ClassFile.FieldType.int) ∈ x_ws := x_in 605 (by decide +kernel) rfl
theorem xw_606 : Jvm.Cond.methodLink "WakingLayers$Tape" (37 : Nat) ({ cls := "WakingLayers$Tape", name := "valueNumber", desc := "()V" } : Jvm.MethodName) ∈ x_ws := x_in 606 (by decide +kernel) rfl
theorem xw_608 : Jvm.Cond.instanceMethod ({ cls := "WakingLayers$Tape", name := "valueNumber", desc := "()V" } : Jvm.MethodName) ∈ x_ws := x_in 608 (by decide +kernel) rfl
theorem xw_609 : Jvm.Cond.code ({ cls := "WakingLayers$Tape", name := "valueNumber", desc := "()V" } : Jvm.MethodName) prog_12_method_10_code (2 : Nat) (Option.none : Option Jvm.ClassFile.FieldType) ∈ x_ws := x_in 609 (by decide +kernel) rfl
theorem xw_610 : Jvm.Cond.methodLink "WakingLayers$Reader" (37 : Nat) ({ cls := "WakingLayers$Tape", name := "atEnd", desc := "()Z" } : Jvm.MethodName) ∈ x_ws := x_in 610 (by decide +kernel) rfl
theorem xw_611 : Jvm.Cond.instanceMethod ({ cls := "WakingLayers$Tape", name := "atEnd", desc := "()Z" } : Jvm.MethodName) ∈ x_ws := x_in 611 (by decide +kernel) rfl
theorem xw_612 : Jvm.Cond.selects "WakingLayers$Tape" ({ cls := "WakingLayers$Tape", name := "atEnd", desc := "()Z" } : Jvm.MethodName) ({ cls := "WakingLayers$Tape", name := "atEnd", desc := "()Z" } : Jvm.MethodName) ∈ x_ws := x_in 612 (by decide +kernel) rfl
theorem xw_613 : Jvm.Cond.code ({ cls := "WakingLayers$Tape", name := "atEnd", desc := "()Z" } : Jvm.MethodName) prog_12_method_12_code (1 : Nat) (Option.some Jvm.ClassFile.FieldType.boolean) ∈ x_ws := x_in 613 (by decide +kernel) rfl
theorem xw_614 : Jvm.Cond.methodLink "WakingLayers$Reader" (41 : Nat) ({ cls := "WakingLayers$Reader", name := "readTelling", desc := "()V" } : Jvm.MethodName) ∈ x_ws := x_in 614 (by decide +kernel) rfl
theorem xw_616 : Jvm.Cond.instanceMethod ({ cls := "WakingLayers$Reader", name := "readTelling", desc := "()V" } : Jvm.MethodName) ∈ x_ws := x_in 616 (by decide +kernel) rfl
theorem xw_617 : Jvm.Cond.code ({ cls := "WakingLayers$Reader", name := "readTelling", desc := "()V" } : Jvm.MethodName) prog_7_method_4_code (1 : Nat) (Option.none : Option Jvm.ClassFile.FieldType) ∈ x_ws := x_in 617 (by decide +kernel) rfl
theorem xw_619 : Jvm.Cond.methodLink "WakingLayers$Reader" (55 : Nat) ({ cls := "WakingLayers$Tape", name := "nameAmong", desc := "(Ljava/lang/String;)I" } : Jvm.MethodName) ∈ x_ws := x_in 619 (by decide +kernel) rfl
theorem xw_620 : Jvm.Cond.instanceMethod ({ cls := "WakingLayers$Tape", name := "nameAmong", desc := "(Ljava/lang/String;)I" } : Jvm.MethodName) ∈ x_ws := x_in 620 (by decide +kernel) rfl
theorem xw_621 : Jvm.Cond.selects "WakingLayers$Tape" ({ cls := "WakingLayers$Tape", name := "nameAmong", desc := "(Ljava/lang/String;)I" } : Jvm.MethodName) ({ cls := "WakingLayers$Tape", name := "nameAmong", desc := "(Ljava/lang/String;)I" } : Jvm.MethodName) ∈ x_ws := x_in 621 (by decide +kernel) rfl
theorem xw_622 : Jvm.Cond.code ({ cls := "WakingLayers$Tape", name := "nameAmong", desc := "(Ljava/lang/String;)I" } : Jvm.MethodName) prog_12_method_17_code (5 : Nat) (Option.some Jvm.ClassFile.FieldType.int) ∈ x_ws := x_in 622 (by decide +kernel) rfl
theorem xw_623 : Jvm.Cond.methodLink "WakingLayers$Tape" (43 : Nat) ({ cls := "java/lang/String", name := "length", desc := "()I" } : Jvm.MethodName) ∈ x_ws := x_in 623 (by decide +kernel) rfl
theorem xw_624 : Jvm.Cond.instanceMethod ({ cls := "java/lang/String", name := "length", desc := "()I" } : Jvm.MethodName) ∈ x_ws := x_in 624 (by decide +kernel) rfl
theorem xw_625 : Jvm.Cond.selects "java/lang/String" ({ cls := "java/lang/String", name := "length", desc := "()I" } : Jvm.MethodName) ({ cls := "java/lang/String", name := "length", desc := "()I" } : Jvm.MethodName) ∈ x_ws := x_in 625 (by decide +kernel) rfl
theorem xw_626 : Jvm.Cond.code ({ cls := "java/lang/String", name := "length", desc := "()I" } : Jvm.MethodName) prog_16_method_54_code (1 : Nat) (Option.some Jvm.ClassFile.FieldType.int) ∈ x_ws := x_in 626 (by decide +kernel) rfl
theorem xw_627 : Jvm.Cond.methodLink "java/lang/String" (335 : Nat) ({ cls := "java/lang/String", name := "coder", desc := "()B" } : Jvm.MethodName) ∈ x_ws := x_in 627 (by decide +kernel) rfl
theorem xw_628 : Jvm.Cond.instanceMethod ({ cls := "java/lang/String", name := "coder", desc := "()B" } : Jvm.MethodName) ∈ x_ws := x_in 628 (by decide +kernel) rfl
theorem xw_629 : Jvm.Cond.selects "java/lang/String" ({ cls := "java/lang/String", name := "coder", desc := "()B" } : Jvm.MethodName) ({ cls := "java/lang/String", name := "coder", desc := "()B" } : Jvm.MethodName) ∈ x_ws := x_in 629 (by decide +kernel) rfl
theorem xw_630 : Jvm.Cond.code ({ cls := "java/lang/String", name := "coder", desc := "()B" } : Jvm.MethodName) prog_16_method_152_code (1 : Nat) (Option.some Jvm.ClassFile.FieldType.byte) ∈ x_ws := x_in 630 (by decide +kernel) rfl
theorem xw_631 : Jvm.Cond.fieldLink "java/lang/String" (38 : Nat) "java/lang/String" "COMPACT_STRINGS" "Z" ∈ x_ws := x_in 631 (by decide +kernel) rfl
theorem xw_633 : Jvm.Cond.methodLink "WakingLayers$Tape" (52 : Nat) ({ cls := "java/lang/String", name := "charAt", desc := "(I)C" } : Jvm.MethodName) ∈ x_ws := x_in 633 (by decide +kernel) rfl
theorem xw_634 : Jvm.Cond.instanceMethod ({ cls := "java/lang/String", name := "charAt", desc := "(I)C" } : Jvm.MethodName) ∈ x_ws := x_in 634 (by decide +kernel) rfl
theorem xw_635 : Jvm.Cond.selects "java/lang/String" ({ cls := "java/lang/String", name := "charAt", desc := "(I)C" } : Jvm.MethodName) ({ cls := "java/lang/String", name := "charAt", desc := "(I)C" } : Jvm.MethodName) ∈ x_ws := x_in 635 (by decide +kernel) rfl
theorem xw_636 : Jvm.Cond.code ({ cls := "java/lang/String", name := "charAt", desc := "(I)C" } : Jvm.MethodName) prog_16_method_56_code (2 : Nat) (Option.some Jvm.ClassFile.FieldType.char) ∈ x_ws := x_in 636 (by decide +kernel) rfl
theorem xw_637 : Jvm.Cond.methodLink "java/lang/String" (492 : Nat) ({ cls := "java/lang/String", name := "isLatin1", desc := "()Z" } : Jvm.MethodName) ∈ x_ws := x_in 637 (by decide +kernel) rfl
theorem xw_638 : Jvm.Cond.instanceMethod ({ cls := "java/lang/String", name := "isLatin1", desc := "()Z" } : Jvm.MethodName) ∈ x_ws := x_in 638 (by decide +kernel) rfl
theorem xw_639 : Jvm.Cond.selects "java/lang/String" ({ cls := "java/lang/String", name := "isLatin1", desc := "()Z" } : Jvm.MethodName) ({ cls := "java/lang/String", name := "isLatin1", desc := "()Z" } : Jvm.MethodName) ∈ x_ws := x_in 639 (by decide +kernel) rfl
theorem xw_640 : Jvm.Cond.code ({ cls := "java/lang/String", name := "isLatin1", desc := "()Z" } : Jvm.MethodName) prog_16_method_154_code (1 : Nat) (Option.some Jvm.ClassFile.FieldType.boolean) ∈ x_ws := x_in 640 (by decide +kernel) rfl
theorem xw_641 : Jvm.Cond.methodLink "java/lang/String" (495 : Nat) ({ cls := "java/lang/StringLatin1", name := "charAt", desc := "([BI)C" } : Jvm.MethodName) ∈ x_ws := x_in 641 (by decide +kernel) rfl
theorem xw_642 : Jvm.Cond.static ({ cls := "java/lang/StringLatin1", name := "charAt", desc := "([BI)C" } : Jvm.MethodName) ∈ x_ws := x_in 642 (by decide +kernel) rfl
theorem xw_643 : Jvm.Cond.code ({ cls := "java/lang/StringLatin1", name := "charAt", desc := "([BI)C" } : Jvm.MethodName) prog_17_method_2_code (2 : Nat) (Option.some Jvm.ClassFile.FieldType.char) ∈ x_ws := x_in 643 (by decide +kernel) rfl
theorem xw_644 : Jvm.Cond.methodLink "java/lang/StringLatin1" (9 : Nat) ({ cls := "java/lang/String", name := "checkIndex", desc := "(II)V" } : Jvm.MethodName) ∈ x_ws := x_in 644 (by decide +kernel) rfl
theorem xw_645 : Jvm.Cond.static ({ cls := "java/lang/String", name := "checkIndex", desc := "(II)V" } : Jvm.MethodName) ∈ x_ws := x_in 645 (by decide +kernel) rfl
theorem xw_646 : Jvm.Cond.code ({ cls := "java/lang/String", name := "checkIndex", desc := "(II)V" } : Jvm.MethodName) prog_16_method_155_code (2 : Nat) (Option.none : Option Jvm.ClassFile.FieldType) ∈ x_ws := x_in 646 (by decide +kernel) rfl
theorem xw_647 : Jvm.Cond.fieldLink "java/lang/String" (1053 : Nat) "jdk/internal/util/Preconditions" "SIOOBE_FORMATTER" "Ljava/util/function/BiFunction;" ∈ x_ws := x_in 647 (by decide +kernel) rfl
theorem xw_649 : Jvm.Cond.methodLink "java/lang/String" (1059 : Nat) ({ cls := "jdk/internal/util/Preconditions", name := "checkIndex", desc := "(IILjava/util/function/BiFunction;)I" } : Jvm.MethodName) ∈ x_ws := x_in 649 (by decide +kernel) rfl
theorem xw_650 : Jvm.Cond.static ({ cls := "jdk/internal/util/Preconditions", name := "checkIndex", desc := "(IILjava/util/function/BiFunction;)I" } : Jvm.MethodName) ∈ x_ws := x_in 650 (by decide +kernel) rfl
theorem xw_651 : Jvm.Cond.code ({ cls := "jdk/internal/util/Preconditions", name := "checkIndex", desc := "(IILjava/util/function/BiFunction;)I" } : Jvm.MethodName) prog_20_method_11_code (3 : Nat) (Option.some Jvm.ClassFile.FieldType.int) ∈ x_ws := x_in 651 (by decide +kernel) rfl
theorem xw_671 : Jvm.Cond.methodLink "WakingLayers$Tape" (48 : Nat) ({ cls := "WakingLayers$Tape", name := "matches", desc := "(Ljava/lang/String;I)Z" } : Jvm.MethodName) ∈ x_ws := x_in 671 (by decide +kernel) rfl
theorem xw_673 : Jvm.Cond.instanceMethod ({ cls := "WakingLayers$Tape", name := "matches", desc := "(Ljava/lang/String;I)Z" } : Jvm.MethodName) ∈ x_ws := x_in 673 (by decide +kernel) rfl
theorem xw_674 : Jvm.Cond.code ({ cls := "WakingLayers$Tape", name := "matches", desc := "(Ljava/lang/String;I)Z" } : Jvm.MethodName) prog_12_method_18_code (4 : Nat) (Option.some Jvm.ClassFile.FieldType.boolean) ∈ x_ws := x_in 674 (by decide +kernel) rfl
theorem xw_675 : Jvm.Cond.methodLink "WakingLayers$Reader" (59 : Nat) ({ cls := "WakingLayers$Reader", name := "readKind", desc := "()V" } : Jvm.MethodName) ∈ x_ws := x_in 675 (by decide +kernel) rfl
theorem xw_677 : Jvm.Cond.instanceMethod ({ cls := "WakingLayers$Reader", name := "readKind", desc := "()V" } : Jvm.MethodName) ∈ x_ws := x_in 677 (by decide +kernel) rfl
theorem xw_678 : Jvm.Cond.code ({ cls := "WakingLayers$Reader", name := "readKind", desc := "()V" } : Jvm.MethodName) prog_7_method_5_code (2 : Nat) (Option.none : Option Jvm.ClassFile.FieldType) ∈ x_ws := x_in 678 (by decide +kernel) rfl
theorem xw_679 : Jvm.Cond.methodLink "WakingLayers$Reader" (78 : Nat) ({ cls := "WakingLayers$Reader", name := "takeFirstWord", desc := "(II)V" } : Jvm.MethodName) ∈ x_ws := x_in 679 (by decide +kernel) rfl
theorem xw_681 : Jvm.Cond.instanceMethod ({ cls := "WakingLayers$Reader", name := "takeFirstWord", desc := "(II)V" } : Jvm.MethodName) ∈ x_ws := x_in 681 (by decide +kernel) rfl
theorem xw_682 : Jvm.Cond.code ({ cls := "WakingLayers$Reader", name := "takeFirstWord", desc := "(II)V" } : Jvm.MethodName) prog_7_method_12_code (3 : Nat) (Option.none : Option Jvm.ClassFile.FieldType) ∈ x_ws := x_in 682 (by decide +kernel) rfl
theorem xw_683 : Jvm.Cond.methodLink "WakingLayers$Reader" (71 : Nat) ({ cls := "WakingLayers$Reader", name := "refuse", desc := "(I)V" } : Jvm.MethodName) ∈ x_ws := x_in 683 (by decide +kernel) rfl
theorem xw_685 : Jvm.Cond.instanceMethod ({ cls := "WakingLayers$Reader", name := "refuse", desc := "(I)V" } : Jvm.MethodName) ∈ x_ws := x_in 685 (by decide +kernel) rfl
theorem xw_686 : Jvm.Cond.code ({ cls := "WakingLayers$Reader", name := "refuse", desc := "(I)V" } : Jvm.MethodName) prog_7_method_18_code (2 : Nat) (Option.none : Option Jvm.ClassFile.FieldType) ∈ x_ws := x_in 686 (by decide +kernel) rfl
theorem xw_687 : Jvm.Cond.methodLink "WakingLayers$Reader" (204 : Nat) ({ cls := "WakingLayers$Tape", name := "tokenStart", desc := "()I" } : Jvm.MethodName) ∈ x_ws := x_in 687 (by decide +kernel) rfl
theorem xw_688 : Jvm.Cond.instanceMethod ({ cls := "WakingLayers$Tape", name := "tokenStart", desc := "()I" } : Jvm.MethodName) ∈ x_ws := x_in 688 (by decide +kernel) rfl
theorem xw_689 : Jvm.Cond.selects "WakingLayers$Tape" ({ cls := "WakingLayers$Tape", name := "tokenStart", desc := "()I" } : Jvm.MethodName) ({ cls := "WakingLayers$Tape", name := "tokenStart", desc := "()I" } : Jvm.MethodName) ∈ x_ws := x_in 689 (by decide +kernel) rfl
theorem xw_690 : Jvm.Cond.code ({ cls := "WakingLayers$Tape", name := "tokenStart", desc := "()I" } : Jvm.MethodName) prog_12_method_11_code (1 : Nat) (Option.some Jvm.ClassFile.FieldType.int) ∈ x_ws := x_in 690 (by decide +kernel) rfl
theorem xw_691 : Jvm.Cond.methodLink "WakingLayers$Reader" (88 : Nat) ({ cls := "WakingLayers$Tape", name := "nextToken", desc := "()V" } : Jvm.MethodName) ∈ x_ws := x_in 691 (by decide +kernel) rfl
theorem xw_693 : Jvm.Cond.methodLink "WakingLayers$Reader" (84 : Nat) ({ cls := "WakingLayers$Tape", name := "atName", desc := "(Ljava/lang/String;)Z" } : Jvm.MethodName) ∈ x_ws := x_in 693 (by decide +kernel) rfl
theorem xw_694 : Jvm.Cond.instanceMethod ({ cls := "WakingLayers$Tape", name := "atName", desc := "(Ljava/lang/String;)Z" } : Jvm.MethodName) ∈ x_ws := x_in 694 (by decide +kernel) rfl
theorem xw_695 : Jvm.Cond.selects "WakingLayers$Tape" ({ cls := "WakingLayers$Tape", name := "atName", desc := "(Ljava/lang/String;)Z" } : Jvm.MethodName) ({ cls := "WakingLayers$Tape", name := "atName", desc := "(Ljava/lang/String;)Z" } : Jvm.MethodName) ∈ x_ws := x_in 695 (by decide +kernel) rfl
theorem xw_696 : Jvm.Cond.code ({ cls := "WakingLayers$Tape", name := "atName", desc := "(Ljava/lang/String;)Z" } : Jvm.MethodName) prog_12_method_16_code (2 : Nat) (Option.some Jvm.ClassFile.FieldType.boolean) ∈ x_ws := x_in 696 (by decide +kernel) rfl
theorem xw_697 : Jvm.Cond.methodLink "WakingLayers$Reader" (91 : Nat) ({ cls := "WakingLayers$Reader", name := "takeNumber", desc := "(I)I" } : Jvm.MethodName) ∈ x_ws := x_in 697 (by decide +kernel) rfl
theorem xw_699 : Jvm.Cond.instanceMethod ({ cls := "WakingLayers$Reader", name := "takeNumber", desc := "(I)I" } : Jvm.MethodName) ∈ x_ws := x_in 699 (by decide +kernel) rfl
theorem xw_700 : Jvm.Cond.code ({ cls := "WakingLayers$Reader", name := "takeNumber", desc := "(I)I" } : Jvm.MethodName) prog_7_method_15_code (3 : Nat) (Option.some Jvm.ClassFile.FieldType.int) ∈ x_ws := x_in 700 (by decide +kernel) rfl
theorem xw_701 : Jvm.Cond.methodLink "WakingLayers$Reader" (125 : Nat) ({ cls := "WakingLayers$Tape", name := "atNumber", desc := "()Z" } : Jvm.MethodName) ∈ x_ws := x_in 701 (by decide +kernel) rfl
theorem xw_702 : Jvm.Cond.instanceMethod ({ cls := "WakingLayers$Tape", name := "atNumber", desc := "()Z" } : Jvm.MethodName) ∈ x_ws := x_in 702 (by decide +kernel) rfl
theorem xw_703 : Jvm.Cond.selects "WakingLayers$Tape" ({ cls := "WakingLayers$Tape", name := "atNumber", desc := "()Z" } : Jvm.MethodName) ({ cls := "WakingLayers$Tape", name := "atNumber", desc := "()Z" } : Jvm.MethodName) ∈ x_ws := x_in 703 (by decide +kernel) rfl
theorem xw_704 : Jvm.Cond.code ({ cls := "WakingLayers$Tape", name := "atNumber", desc := "()Z" } : Jvm.MethodName) prog_12_method_13_code (1 : Nat) (Option.some Jvm.ClassFile.FieldType.boolean) ∈ x_ws := x_in 704 (by decide +kernel) rfl
theorem xw_705 : Jvm.Cond.methodLink "WakingLayers$Reader" (194 : Nat) ({ cls := "WakingLayers$Tape", name := "number", desc := "()I" } : Jvm.MethodName) ∈ x_ws := x_in 705 (by decide +kernel) rfl
theorem xw_706 : Jvm.Cond.instanceMethod ({ cls := "WakingLayers$Tape", name := "number", desc := "()I" } : Jvm.MethodName) ∈ x_ws := x_in 706 (by decide +kernel) rfl
theorem xw_707 : Jvm.Cond.selects "WakingLayers$Tape" ({ cls := "WakingLayers$Tape", name := "number", desc := "()I" } : Jvm.MethodName) ({ cls := "WakingLayers$Tape", name := "number", desc := "()I" } : Jvm.MethodName) ∈ x_ws := x_in 707 (by decide +kernel) rfl
theorem xw_708 : Jvm.Cond.code ({ cls := "WakingLayers$Tape", name := "number", desc := "()I" } : Jvm.MethodName) prog_12_method_14_code (1 : Nat) (Option.some Jvm.ClassFile.FieldType.int) ∈ x_ws := x_in 708 (by decide +kernel) rfl
theorem xw_709 : Jvm.Cond.methodLink "WakingLayers$Reader" (95 : Nat) ({ cls := "WakingLayers$Reader", name := "takeSign", desc := "(C)V" } : Jvm.MethodName) ∈ x_ws := x_in 709 (by decide +kernel) rfl
theorem xw_711 : Jvm.Cond.instanceMethod ({ cls := "WakingLayers$Reader", name := "takeSign", desc := "(C)V" } : Jvm.MethodName) ∈ x_ws := x_in 711 (by decide +kernel) rfl
theorem xw_712 : Jvm.Cond.code ({ cls := "WakingLayers$Reader", name := "takeSign", desc := "(C)V" } : Jvm.MethodName) prog_7_method_17_code (2 : Nat) (Option.none : Option Jvm.ClassFile.FieldType) ∈ x_ws := x_in 712 (by decide +kernel) rfl
theorem xw_713 : Jvm.Cond.methodLink "WakingLayers$Reader" (137 : Nat) ({ cls := "WakingLayers$Tape", name := "atSign", desc := "(C)Z" } : Jvm.MethodName) ∈ x_ws := x_in 713 (by decide +kernel) rfl
theorem xw_714 : Jvm.Cond.instanceMethod ({ cls := "WakingLayers$Tape", name := "atSign", desc := "(C)Z" } : Jvm.MethodName) ∈ x_ws := x_in 714 (by decide +kernel) rfl
theorem xw_715 : Jvm.Cond.selects "WakingLayers$Tape" ({ cls := "WakingLayers$Tape", name := "atSign", desc := "(C)Z" } : Jvm.MethodName) ({ cls := "WakingLayers$Tape", name := "atSign", desc := "(C)Z" } : Jvm.MethodName) ∈ x_ws := x_in 715 (by decide +kernel) rfl
theorem xw_716 : Jvm.Cond.code ({ cls := "WakingLayers$Tape", name := "atSign", desc := "(C)Z" } : Jvm.MethodName) prog_12_method_15_code (2 : Nat) (Option.some Jvm.ClassFile.FieldType.boolean) ∈ x_ws := x_in 716 (by decide +kernel) rfl
theorem xw_717 : Jvm.Cond.methodLink "WakingLayers$Reader" (99 : Nat) ({ cls := "WakingLayers$Program", name := "addKind", desc := "(I)V" } : Jvm.MethodName) ∈ x_ws := x_in 717 (by decide +kernel) rfl
theorem xw_718 : Jvm.Cond.instanceMethod ({ cls := "WakingLayers$Program", name := "addKind", desc := "(I)V" } : Jvm.MethodName) ∈ x_ws := x_in 718 (by decide +kernel) rfl
theorem xw_719 : Jvm.Cond.selects "WakingLayers$Program" ({ cls := "WakingLayers$Program", name := "addKind", desc := "(I)V" } : Jvm.MethodName) ({ cls := "WakingLayers$Program", name := "addKind", desc := "(I)V" } : Jvm.MethodName) ∈ x_ws := x_in 719 (by decide +kernel) rfl
theorem xw_720 : Jvm.Cond.code ({ cls := "WakingLayers$Program", name := "addKind", desc := "(I)V" } : Jvm.MethodName) prog_6_method_4_code (2 : Nat) (Option.none : Option Jvm.ClassFile.FieldType) ∈ x_ws := x_in 720 (by decide +kernel) rfl
theorem xw_721 : Jvm.Cond.methodLink "WakingLayers$Reader" (62 : Nat) ({ cls := "WakingLayers$Reader", name := "readThing", desc := "()V" } : Jvm.MethodName) ∈ x_ws := x_in 721 (by decide +kernel) rfl
theorem xw_723 : Jvm.Cond.instanceMethod ({ cls := "WakingLayers$Reader", name := "readThing", desc := "()V" } : Jvm.MethodName) ∈ x_ws := x_in 723 (by decide +kernel) rfl
theorem xw_724 : Jvm.Cond.code ({ cls := "WakingLayers$Reader", name := "readThing", desc := "()V" } : Jvm.MethodName) prog_7_method_6_code (3 : Nat) (Option.none : Option Jvm.ClassFile.FieldType) ∈ x_ws := x_in 724 (by decide +kernel) rfl
theorem xw_725 : Jvm.Cond.methodLink "WakingLayers$Reader" (105 : Nat) ({ cls := "WakingLayers$Program", name := "addThing", desc := "(II)V" } : Jvm.MethodName) ∈ x_ws := x_in 725 (by decide +kernel) rfl
theorem xw_726 : Jvm.Cond.instanceMethod ({ cls := "WakingLayers$Program", name := "addThing", desc := "(II)V" } : Jvm.MethodName) ∈ x_ws := x_in 726 (by decide +kernel) rfl
theorem xw_727 : Jvm.Cond.selects "WakingLayers$Program" ({ cls := "WakingLayers$Program", name := "addThing", desc := "(II)V" } : Jvm.MethodName) ({ cls := "WakingLayers$Program", name := "addThing", desc := "(II)V" } : Jvm.MethodName) ∈ x_ws := x_in 727 (by decide +kernel) rfl
theorem xw_728 : Jvm.Cond.code ({ cls := "WakingLayers$Program", name := "addThing", desc := "(II)V" } : Jvm.MethodName) prog_6_method_5_code (3 : Nat) (Option.none : Option Jvm.ClassFile.FieldType) ∈ x_ws := x_in 728 (by decide +kernel) rfl
theorem xw_729 : Jvm.Cond.methodLink "WakingLayers$Reader" (65 : Nat) ({ cls := "WakingLayers$Reader", name := "readLayer", desc := "()V" } : Jvm.MethodName) ∈ x_ws := x_in 729 (by decide +kernel) rfl
theorem xw_731 : Jvm.Cond.instanceMethod ({ cls := "WakingLayers$Reader", name := "readLayer", desc := "()V" } : Jvm.MethodName) ∈ x_ws := x_in 731 (by decide +kernel) rfl
theorem xw_732 : Jvm.Cond.code ({ cls := "WakingLayers$Reader", name := "readLayer", desc := "()V" } : Jvm.MethodName) prog_7_method_7_code (4 : Nat) (Option.none : Option Jvm.ClassFile.FieldType) ∈ x_ws := x_in 732 (by decide +kernel) rfl
theorem xw_734 : Jvm.Cond.methodLink "WakingLayers$Reader" (117 : Nat) ({ cls := "WakingLayers$Reader", name := "takeWord", desc := "(Ljava/lang/String;)I" } : Jvm.MethodName) ∈ x_ws := x_in 734 (by decide +kernel) rfl
theorem xw_736 : Jvm.Cond.instanceMethod ({ cls := "WakingLayers$Reader", name := "takeWord", desc := "(Ljava/lang/String;)I" } : Jvm.MethodName) ∈ x_ws := x_in 736 (by decide +kernel) rfl
theorem xw_737 : Jvm.Cond.code ({ cls := "WakingLayers$Reader", name := "takeWord", desc := "(Ljava/lang/String;)I" } : Jvm.MethodName) prog_7_method_16_code (3 : Nat) (Option.some Jvm.ClassFile.FieldType.int) ∈ x_ws := x_in 737 (by decide +kernel) rfl
theorem xw_738 : Jvm.Cond.methodLink "WakingLayers$Reader" (120 : Nat) ({ cls := "WakingLayers$Layer", name := "begin", desc := "(II)V" } : Jvm.MethodName) ∈ x_ws := x_in 738 (by decide +kernel) rfl
theorem xw_739 : Jvm.Cond.instanceMethod ({ cls := "WakingLayers$Layer", name := "begin", desc := "(II)V" } : Jvm.MethodName) ∈ x_ws := x_in 739 (by decide +kernel) rfl
theorem xw_740 : Jvm.Cond.selects "WakingLayers$Layer" ({ cls := "WakingLayers$Layer", name := "begin", desc := "(II)V" } : Jvm.MethodName) ({ cls := "WakingLayers$Layer", name := "begin", desc := "(II)V" } : Jvm.MethodName) ∈ x_ws := x_in 740 (by decide +kernel) rfl
theorem xw_741 : Jvm.Cond.code ({ cls := "WakingLayers$Layer", name := "begin", desc := "(II)V" } : Jvm.MethodName) prog_5_method_2_code (3 : Nat) (Option.none : Option Jvm.ClassFile.FieldType) ∈ x_ws := x_in 741 (by decide +kernel) rfl
theorem xw_742 : Jvm.Cond.methodLink "WakingLayers$Reader" (128 : Nat) ({ cls := "WakingLayers$Reader", name := "readTest", desc := "(LWakingLayers$Layer;)V" } : Jvm.MethodName) ∈ x_ws := x_in 742 (by decide +kernel) rfl
theorem xw_744 : Jvm.Cond.instanceMethod ({ cls := "WakingLayers$Reader", name := "readTest", desc := "(LWakingLayers$Layer;)V" } : Jvm.MethodName) ∈ x_ws := x_in 744 (by decide +kernel) rfl
theorem xw_745 : Jvm.Cond.code ({ cls := "WakingLayers$Reader", name := "readTest", desc := "(LWakingLayers$Layer;)V" } : Jvm.MethodName) prog_7_method_8_code (4 : Nat) (Option.none : Option Jvm.ClassFile.FieldType) ∈ x_ws := x_in 745 (by decide +kernel) rfl
theorem xw_746 : Jvm.Cond.methodLink "WakingLayers$Reader" (141 : Nat) ({ cls := "WakingLayers$Layer", name := "beginTest", desc := "(ICI)V" } : Jvm.MethodName) ∈ x_ws := x_in 746 (by decide +kernel) rfl
theorem xw_747 : Jvm.Cond.instanceMethod ({ cls := "WakingLayers$Layer", name := "beginTest", desc := "(ICI)V" } : Jvm.MethodName) ∈ x_ws := x_in 747 (by decide +kernel) rfl
theorem xw_748 : Jvm.Cond.selects "WakingLayers$Layer" ({ cls := "WakingLayers$Layer", name := "beginTest", desc := "(ICI)V" } : Jvm.MethodName) ({ cls := "WakingLayers$Layer", name := "beginTest", desc := "(ICI)V" } : Jvm.MethodName) ∈ x_ws := x_in 748 (by decide +kernel) rfl
theorem xw_749 : Jvm.Cond.code ({ cls := "WakingLayers$Layer", name := "beginTest", desc := "(ICI)V" } : Jvm.MethodName) prog_5_method_3_code (4 : Nat) (Option.none : Option Jvm.ClassFile.FieldType) ∈ x_ws := x_in 749 (by decide +kernel) rfl
theorem xw_750 : Jvm.Cond.methodLink "WakingLayers$Reader" (132 : Nat) ({ cls := "WakingLayers$Reader", name := "readNeedsAndBars", desc := "(LWakingLayers$Layer;)V" } : Jvm.MethodName) ∈ x_ws := x_in 750 (by decide +kernel) rfl
theorem xw_752 : Jvm.Cond.instanceMethod ({ cls := "WakingLayers$Reader", name := "readNeedsAndBars", desc := "(LWakingLayers$Layer;)V" } : Jvm.MethodName) ∈ x_ws := x_in 752 (by decide +kernel) rfl
theorem xw_753 : Jvm.Cond.code ({ cls := "WakingLayers$Reader", name := "readNeedsAndBars", desc := "(LWakingLayers$Layer;)V" } : Jvm.MethodName) prog_7_method_9_code (3 : Nat) (Option.none : Option Jvm.ClassFile.FieldType) ∈ x_ws := x_in 753 (by decide +kernel) rfl
theorem xw_756 : Jvm.Cond.methodLink "WakingLayers$Reader" (68 : Nat) ({ cls := "WakingLayers$Reader", name := "readBody", desc := "()V" } : Jvm.MethodName) ∈ x_ws := x_in 756 (by decide +kernel) rfl
theorem xw_758 : Jvm.Cond.instanceMethod ({ cls := "WakingLayers$Reader", name := "readBody", desc := "()V" } : Jvm.MethodName) ∈ x_ws := x_in 758 (by decide +kernel) rfl
theorem xw_759 : Jvm.Cond.code ({ cls := "WakingLayers$Reader", name := "readBody", desc := "()V" } : Jvm.MethodName) prog_7_method_10_code (7 : Nat) (Option.none : Option Jvm.ClassFile.FieldType) ∈ x_ws := x_in 759 (by decide +kernel) rfl
theorem xw_760 : Jvm.Cond.methodLink "WakingLayers$Reader" (162 : Nat) ({ cls := "WakingLayers$Reader", name := "takeOwner", desc := "()I" } : Jvm.MethodName) ∈ x_ws := x_in 760 (by decide +kernel) rfl
theorem xw_762 : Jvm.Cond.instanceMethod ({ cls := "WakingLayers$Reader", name := "takeOwner", desc := "()I" } : Jvm.MethodName) ∈ x_ws := x_in 762 (by decide +kernel) rfl
theorem xw_763 : Jvm.Cond.code ({ cls := "WakingLayers$Reader", name := "takeOwner", desc := "()I" } : Jvm.MethodName) prog_7_method_13_code (1 : Nat) (Option.some Jvm.ClassFile.FieldType.int) ∈ x_ws := x_in 763 (by decide +kernel) rfl
theorem xw_766 : Jvm.Cond.methodLink "WakingLayers$Reader" (168 : Nat) ({ cls := "WakingLayers$Body", name := "begin", desc := "(IIII)V" } : Jvm.MethodName) ∈ x_ws := x_in 766 (by decide +kernel) rfl
theorem xw_767 : Jvm.Cond.instanceMethod ({ cls := "WakingLayers$Body", name := "begin", desc := "(IIII)V" } : Jvm.MethodName) ∈ x_ws := x_in 767 (by decide +kernel) rfl
theorem xw_768 : Jvm.Cond.selects "WakingLayers$Body" ({ cls := "WakingLayers$Body", name := "begin", desc := "(IIII)V" } : Jvm.MethodName) ({ cls := "WakingLayers$Body", name := "begin", desc := "(IIII)V" } : Jvm.MethodName) ∈ x_ws := x_in 768 (by decide +kernel) rfl
theorem xw_769 : Jvm.Cond.code ({ cls := "WakingLayers$Body", name := "begin", desc := "(IIII)V" } : Jvm.MethodName) prog_3_method_2_code (5 : Nat) (Option.none : Option Jvm.ClassFile.FieldType) ∈ x_ws := x_in 769 (by decide +kernel) rfl
theorem xw_770 : Jvm.Cond.methodLink "WakingLayers$Reader" (173 : Nat) ({ cls := "WakingLayers$Reader", name := "readAct", desc := "(LWakingLayers$Body;)V" } : Jvm.MethodName) ∈ x_ws := x_in 770 (by decide +kernel) rfl
theorem xw_772 : Jvm.Cond.instanceMethod ({ cls := "WakingLayers$Reader", name := "readAct", desc := "(LWakingLayers$Body;)V" } : Jvm.MethodName) ∈ x_ws := x_in 772 (by decide +kernel) rfl
theorem xw_773 : Jvm.Cond.code ({ cls := "WakingLayers$Reader", name := "readAct", desc := "(LWakingLayers$Body;)V" } : Jvm.MethodName) prog_7_method_11_code (5 : Nat) (Option.none : Option Jvm.ClassFile.FieldType) ∈ x_ws := x_in 773 (by decide +kernel) rfl
theorem xw_775 : Jvm.Cond.methodLink "WakingLayers$Reader" (185 : Nat) ({ cls := "WakingLayers$Reader", name := "refuseUnwoken", desc := "()V" } : Jvm.MethodName) ∈ x_ws := x_in 775 (by decide +kernel) rfl
theorem xw_777 : Jvm.Cond.instanceMethod ({ cls := "WakingLayers$Reader", name := "refuseUnwoken", desc := "()V" } : Jvm.MethodName) ∈ x_ws := x_in 777 (by decide +kernel) rfl
theorem xw_778 : Jvm.Cond.code ({ cls := "WakingLayers$Reader", name := "refuseUnwoken", desc := "()V" } : Jvm.MethodName) prog_7_method_14_code (1 : Nat) (Option.none : Option Jvm.ClassFile.FieldType) ∈ x_ws := x_in 778 (by decide +kernel) rfl
theorem xw_779 : Jvm.Cond.methodLink "WakingLayers$Reader" (197 : Nat) ({ cls := "WakingLayers$Program", name := "isLayer", desc := "(I)Z" } : Jvm.MethodName) ∈ x_ws := x_in 779 (by decide +kernel) rfl
theorem xw_780 : Jvm.Cond.instanceMethod ({ cls := "WakingLayers$Program", name := "isLayer", desc := "(I)Z" } : Jvm.MethodName) ∈ x_ws := x_in 780 (by decide +kernel) rfl
theorem xw_781 : Jvm.Cond.selects "WakingLayers$Program" ({ cls := "WakingLayers$Program", name := "isLayer", desc := "(I)Z" } : Jvm.MethodName) ({ cls := "WakingLayers$Program", name := "isLayer", desc := "(I)Z" } : Jvm.MethodName) ∈ x_ws := x_in 781 (by decide +kernel) rfl
theorem xw_782 : Jvm.Cond.code ({ cls := "WakingLayers$Program", name := "isLayer", desc := "(I)Z" } : Jvm.MethodName) prog_6_method_3_code (2 : Nat) (Option.some Jvm.ClassFile.FieldType.boolean) ∈ x_ws := x_in 782 (by decide +kernel) rfl
theorem xw_783 : Jvm.Cond.methodLink "WakingLayers$Reader" (201 : Nat) ({ cls := "WakingLayers$Layer", name := "isWoken", desc := "()Z" } : Jvm.MethodName) ∈ x_ws := x_in 783 (by decide +kernel) rfl
theorem xw_784 : Jvm.Cond.instanceMethod ({ cls := "WakingLayers$Layer", name := "isWoken", desc := "()Z" } : Jvm.MethodName) ∈ x_ws := x_in 784 (by decide +kernel) rfl
theorem xw_785 : Jvm.Cond.selects "WakingLayers$Layer" ({ cls := "WakingLayers$Layer", name := "isWoken", desc := "()Z" } : Jvm.MethodName) ({ cls := "WakingLayers$Layer", name := "isWoken", desc := "()Z" } : Jvm.MethodName) ∈ x_ws := x_in 785 (by decide +kernel) rfl
theorem xw_786 : Jvm.Cond.code ({ cls := "WakingLayers$Layer", name := "isWoken", desc := "()Z" } : Jvm.MethodName) prog_5_method_4_code (1 : Nat) (Option.some Jvm.ClassFile.FieldType.boolean) ∈ x_ws := x_in 786 (by decide +kernel) rfl
theorem xw_787 : Jvm.Cond.methodLink "WakingLayers$Reader" (188 : Nat) ({ cls := "WakingLayers$Body", name := "addAct", desc := "(III)V" } : Jvm.MethodName) ∈ x_ws := x_in 787 (by decide +kernel) rfl
theorem xw_788 : Jvm.Cond.instanceMethod ({ cls := "WakingLayers$Body", name := "addAct", desc := "(III)V" } : Jvm.MethodName) ∈ x_ws := x_in 788 (by decide +kernel) rfl
theorem xw_789 : Jvm.Cond.selects "WakingLayers$Body" ({ cls := "WakingLayers$Body", name := "addAct", desc := "(III)V" } : Jvm.MethodName) ({ cls := "WakingLayers$Body", name := "addAct", desc := "(III)V" } : Jvm.MethodName) ∈ x_ws := x_in 789 (by decide +kernel) rfl
theorem xw_790 : Jvm.Cond.code ({ cls := "WakingLayers$Body", name := "addAct", desc := "(III)V" } : Jvm.MethodName) prog_3_method_3_code (4 : Nat) (Option.none : Option Jvm.ClassFile.FieldType) ∈ x_ws := x_in 790 (by decide +kernel) rfl
theorem xw_791 : Jvm.Cond.methodLink "WakingLayers$Reader" (44 : Nat) ({ cls := "WakingLayers$Program", name := "restoreCounts", desc := "()V" } : Jvm.MethodName) ∈ x_ws := x_in 791 (by decide +kernel) rfl
theorem xw_792 : Jvm.Cond.instanceMethod ({ cls := "WakingLayers$Program", name := "restoreCounts", desc := "()V" } : Jvm.MethodName) ∈ x_ws := x_in 792 (by decide +kernel) rfl
theorem xw_793 : Jvm.Cond.selects "WakingLayers$Program" ({ cls := "WakingLayers$Program", name := "restoreCounts", desc := "()V" } : Jvm.MethodName) ({ cls := "WakingLayers$Program", name := "restoreCounts", desc := "()V" } : Jvm.MethodName) ∈ x_ws := x_in 793 (by decide +kernel) rfl
theorem xw_794 : Jvm.Cond.code ({ cls := "WakingLayers$Program", name := "restoreCounts", desc := "()V" } : Jvm.MethodName) prog_6_method_7_code (1 : Nat) (Option.none : Option Jvm.ClassFile.FieldType) ∈ x_ws := x_in 794 (by decide +kernel) rfl
theorem xw_795 : Jvm.Cond.methodLink "WakingLayers$Reader" (47 : Nat) ({ cls := "WakingLayers$Tape", name := "clear", desc := "()V" } : Jvm.MethodName) ∈ x_ws := x_in 795 (by decide +kernel) rfl
theorem xw_796 : Jvm.Cond.instanceMethod ({ cls := "WakingLayers$Tape", name := "clear", desc := "()V" } : Jvm.MethodName) ∈ x_ws := x_in 796 (by decide +kernel) rfl
theorem xw_797 : Jvm.Cond.selects "WakingLayers$Tape" ({ cls := "WakingLayers$Tape", name := "clear", desc := "()V" } : Jvm.MethodName) ({ cls := "WakingLayers$Tape", name := "clear", desc := "()V" } : Jvm.MethodName) ∈ x_ws := x_in 797 (by decide +kernel) rfl
theorem xw_798 : Jvm.Cond.code ({ cls := "WakingLayers$Tape", name := "clear", desc := "()V" } : Jvm.MethodName) prog_12_method_5_code (1 : Nat) (Option.none : Option Jvm.ClassFile.FieldType) ∈ x_ws := x_in 798 (by decide +kernel) rfl
theorem xw_799 : Jvm.Cond.constant "WakingLayers" (143 : Nat) (-1000100 : Int32) ∈ x_ws := x_in 799 (by decide +kernel) rfl
theorem xw_804 : Jvm.Cond.code ({ cls := "WakingLayers", name := "fault", desc := "()I" } : Jvm.MethodName) prog_1_method_8_code (1 : Nat) (Option.some Jvm.ClassFile.FieldType.int) ∈ x_ws := x_in 804 (by decide +kernel) rfl
theorem xw_805 : Jvm.Cond.methodLink "WakingLayers" (144 : Nat) ({ cls := "WakingLayers$Reader", name := "latestFault", desc := "()I" } : Jvm.MethodName) ∈ x_ws := x_in 805 (by decide +kernel) rfl
theorem xw_806 : Jvm.Cond.instanceMethod ({ cls := "WakingLayers$Reader", name := "latestFault", desc := "()I" } : Jvm.MethodName) ∈ x_ws := x_in 806 (by decide +kernel) rfl
theorem xw_807 : Jvm.Cond.selects "WakingLayers$Reader" ({ cls := "WakingLayers$Reader", name := "latestFault", desc := "()I" } : Jvm.MethodName) ({ cls := "WakingLayers$Reader", name := "latestFault", desc := "()I" } : Jvm.MethodName) ∈ x_ws := x_in 807 (by decide +kernel) rfl
theorem xw_808 : Jvm.Cond.code ({ cls := "WakingLayers$Reader", name := "latestFault", desc := "()I" } : Jvm.MethodName) prog_7_method_2_code (1 : Nat) (Option.some Jvm.ClassFile.FieldType.int) ∈ x_ws := x_in 808 (by decide +kernel) rfl
theorem xw_812 : Jvm.Cond.code ({ cls := "WakingLayers", name := "layer", desc := "(II)I" } : Jvm.MethodName) prog_1_method_9_code (4 : Nat) (Option.some Jvm.ClassFile.FieldType.int) ∈ x_ws := x_in 812 (by decide +kernel) rfl
theorem xw_813 : Jvm.Cond.methodLink "WakingLayers" (147 : Nat) ({ cls := "WakingLayers$Program", name := "isLayer", desc := "(I)Z" } : Jvm.MethodName) ∈ x_ws := x_in 813 (by decide +kernel) rfl
theorem xw_814 : Jvm.Cond.methodLink "WakingLayers" (168 : Nat) ({ cls := "WakingLayers$Circumstances", name := "isAwake", desc := "(I)Z" } : Jvm.MethodName) ∈ x_ws := x_in 814 (by decide +kernel) rfl
theorem xw_815 : Jvm.Cond.instanceMethod ({ cls := "WakingLayers$Circumstances", name := "isAwake", desc := "(I)Z" } : Jvm.MethodName) ∈ x_ws := x_in 815 (by decide +kernel) rfl
theorem xw_816 : Jvm.Cond.selects "WakingLayers$Circumstances" ({ cls := "WakingLayers$Circumstances", name := "isAwake", desc := "(I)Z" } : Jvm.MethodName) ({ cls := "WakingLayers$Circumstances", name := "isAwake", desc := "(I)Z" } : Jvm.MethodName) ∈ x_ws := x_in 816 (by decide +kernel) rfl
theorem xw_817 : Jvm.Cond.code ({ cls := "WakingLayers$Circumstances", name := "isAwake", desc := "(I)Z" } : Jvm.MethodName) prog_4_method_14_code (2 : Nat) (Option.some Jvm.ClassFile.FieldType.boolean) ∈ x_ws := x_in 817 (by decide +kernel) rfl
theorem xw_818 : Jvm.Cond.methodLink "WakingLayers$Circumstances" (41 : Nat) ({ cls := "WakingLayers$Circumstances", name := "awakeSet", desc := "()I" } : Jvm.MethodName) ∈ x_ws := x_in 818 (by decide +kernel) rfl
theorem xw_819 : Jvm.Cond.instanceMethod ({ cls := "WakingLayers$Circumstances", name := "awakeSet", desc := "()I" } : Jvm.MethodName) ∈ x_ws := x_in 819 (by decide +kernel) rfl
theorem xw_820 : Jvm.Cond.selects "WakingLayers$Circumstances" ({ cls := "WakingLayers$Circumstances", name := "awakeSet", desc := "()I" } : Jvm.MethodName) ({ cls := "WakingLayers$Circumstances", name := "awakeSet", desc := "()I" } : Jvm.MethodName) ∈ x_ws := x_in 820 (by decide +kernel) rfl
theorem xw_821 : Jvm.Cond.code ({ cls := "WakingLayers$Circumstances", name := "awakeSet", desc := "()I" } : Jvm.MethodName) prog_4_method_13_code (1 : Nat) (Option.some Jvm.ClassFile.FieldType.int) ∈ x_ws := x_in 821 (by decide +kernel) rfl
theorem xw_822 : Jvm.Cond.methodLink "WakingLayers$Circumstances" (37 : Nat) ({ cls := "WakingLayers$Circumstances", name := "awakeUnasked", desc := "()I" } : Jvm.MethodName) ∈ x_ws := x_in 822 (by decide +kernel) rfl
theorem xw_824 : Jvm.Cond.instanceMethod ({ cls := "WakingLayers$Circumstances", name := "awakeUnasked", desc := "()I" } : Jvm.MethodName) ∈ x_ws := x_in 824 (by decide +kernel) rfl
theorem xw_825 : Jvm.Cond.code ({ cls := "WakingLayers$Circumstances", name := "awakeUnasked", desc := "()I" } : Jvm.MethodName) prog_4_method_15_code (3 : Nat) (Option.some Jvm.ClassFile.FieldType.int) ∈ x_ws := x_in 825 (by decide +kernel) rfl
theorem xw_826 : Jvm.Cond.methodLink "WakingLayers" (171 : Nat) ({ cls := "WakingLayers$Circumstances", name := "openOf", desc := "(I)I" } : Jvm.MethodName) ∈ x_ws := x_in 826 (by decide +kernel) rfl
theorem xw_827 : Jvm.Cond.instanceMethod ({ cls := "WakingLayers$Circumstances", name := "openOf", desc := "(I)I" } : Jvm.MethodName) ∈ x_ws := x_in 827 (by decide +kernel) rfl
theorem xw_828 : Jvm.Cond.selects "WakingLayers$Circumstances" ({ cls := "WakingLayers$Circumstances", name := "openOf", desc := "(I)I" } : Jvm.MethodName) ({ cls := "WakingLayers$Circumstances", name := "openOf", desc := "(I)I" } : Jvm.MethodName) ∈ x_ws := x_in 828 (by decide +kernel) rfl
theorem xw_829 : Jvm.Cond.code ({ cls := "WakingLayers$Circumstances", name := "openOf", desc := "(I)I" } : Jvm.MethodName) prog_4_method_5_code (4 : Nat) (Option.some Jvm.ClassFile.FieldType.int) ∈ x_ws := x_in 829 (by decide +kernel) rfl
theorem xw_833 : Jvm.Cond.code ({ cls := "WakingLayers", name := "fact", desc := "(II)I" } : Jvm.MethodName) prog_1_method_10_code (3 : Nat) (Option.some Jvm.ClassFile.FieldType.int) ∈ x_ws := x_in 833 (by decide +kernel) rfl
theorem xw_834 : Jvm.Cond.methodLink "WakingLayers" (174 : Nat) ({ cls := "WakingLayers$Circumstances", name := "isFactValue", desc := "(I)Z" } : Jvm.MethodName) ∈ x_ws := x_in 834 (by decide +kernel) rfl
theorem xw_835 : Jvm.Cond.static ({ cls := "WakingLayers$Circumstances", name := "isFactValue", desc := "(I)Z" } : Jvm.MethodName) ∈ x_ws := x_in 835 (by decide +kernel) rfl
theorem xw_836 : Jvm.Cond.code ({ cls := "WakingLayers$Circumstances", name := "isFactValue", desc := "(I)Z" } : Jvm.MethodName) prog_4_method_2_code (1 : Nat) (Option.some Jvm.ClassFile.FieldType.boolean) ∈ x_ws := x_in 836 (by decide +kernel) rfl
theorem xw_837 : Jvm.Cond.methodLink "WakingLayers" (177 : Nat) ({ cls := "WakingLayers$Circumstances", name := "tell", desc := "(II)I" } : Jvm.MethodName) ∈ x_ws := x_in 837 (by decide +kernel) rfl
theorem xw_838 : Jvm.Cond.instanceMethod ({ cls := "WakingLayers$Circumstances", name := "tell", desc := "(II)I" } : Jvm.MethodName) ∈ x_ws := x_in 838 (by decide +kernel) rfl
theorem xw_839 : Jvm.Cond.selects "WakingLayers$Circumstances" ({ cls := "WakingLayers$Circumstances", name := "tell", desc := "(II)I" } : Jvm.MethodName) ({ cls := "WakingLayers$Circumstances", name := "tell", desc := "(II)I" } : Jvm.MethodName) ∈ x_ws := x_in 839 (by decide +kernel) rfl
theorem xw_840 : Jvm.Cond.code ({ cls := "WakingLayers$Circumstances", name := "tell", desc := "(II)I" } : Jvm.MethodName) prog_4_method_3_code (4 : Nat) (Option.some Jvm.ClassFile.FieldType.int) ∈ x_ws := x_in 840 (by decide +kernel) rfl
theorem xw_844 : Jvm.Cond.code ({ cls := "WakingLayers", name := "facts", desc := "(III)I" } : Jvm.MethodName) prog_1_method_11_code (5 : Nat) (Option.some Jvm.ClassFile.FieldType.int) ∈ x_ws := x_in 844 (by decide +kernel) rfl
theorem xw_845 : Jvm.Cond.methodLink "WakingLayers" (181 : Nat) ({ cls := "WakingLayers$Sheets", name := "item", desc := "(II)I" } : Jvm.MethodName) ∈ x_ws := x_in 845 (by decide +kernel) rfl
theorem xw_846 : Jvm.Cond.instanceMethod ({ cls := "WakingLayers$Sheets", name := "item", desc := "(II)I" } : Jvm.MethodName) ∈ x_ws := x_in 846 (by decide +kernel) rfl
theorem xw_847 : Jvm.Cond.selects "WakingLayers$Sheets" ({ cls := "WakingLayers$Sheets", name := "item", desc := "(II)I" } : Jvm.MethodName) ({ cls := "WakingLayers$Sheets", name := "item", desc := "(II)I" } : Jvm.MethodName) ∈ x_ws := x_in 847 (by decide +kernel) rfl
theorem xw_848 : Jvm.Cond.code ({ cls := "WakingLayers$Sheets", name := "item", desc := "(II)I" } : Jvm.MethodName) prog_10_method_9_code (3 : Nat) (Option.some Jvm.ClassFile.FieldType.int) ∈ x_ws := x_in 848 (by decide +kernel) rfl
theorem xw_852 : Jvm.Cond.code ({ cls := "WakingLayers", name := "point", desc := "()I" } : Jvm.MethodName) prog_1_method_12_code (1 : Nat) (Option.some Jvm.ClassFile.FieldType.int) ∈ x_ws := x_in 852 (by decide +kernel) rfl
theorem xw_853 : Jvm.Cond.methodLink "WakingLayers" (184 : Nat) ({ cls := "WakingLayers$Circumstances", name := "takePoint", desc := "()I" } : Jvm.MethodName) ∈ x_ws := x_in 853 (by decide +kernel) rfl
theorem xw_854 : Jvm.Cond.instanceMethod ({ cls := "WakingLayers$Circumstances", name := "takePoint", desc := "()I" } : Jvm.MethodName) ∈ x_ws := x_in 854 (by decide +kernel) rfl
theorem xw_855 : Jvm.Cond.selects "WakingLayers$Circumstances" ({ cls := "WakingLayers$Circumstances", name := "takePoint", desc := "()I" } : Jvm.MethodName) ({ cls := "WakingLayers$Circumstances", name := "takePoint", desc := "()I" } : Jvm.MethodName) ∈ x_ws := x_in 855 (by decide +kernel) rfl
theorem xw_856 : Jvm.Cond.code ({ cls := "WakingLayers$Circumstances", name := "takePoint", desc := "()I" } : Jvm.MethodName) prog_4_method_16_code (1 : Nat) (Option.some Jvm.ClassFile.FieldType.int) ∈ x_ws := x_in 856 (by decide +kernel) rfl
theorem xw_857 : Jvm.Cond.methodLink "WakingLayers$Circumstances" (58 : Nat) ({ cls := "WakingLayers$Circumstances", name := "foundAtPoint", desc := "([I)I" } : Jvm.MethodName) ∈ x_ws := x_in 857 (by decide +kernel) rfl
theorem xw_858 : Jvm.Cond.instanceMethod ({ cls := "WakingLayers$Circumstances", name := "foundAtPoint", desc := "([I)I" } : Jvm.MethodName) ∈ x_ws := x_in 858 (by decide +kernel) rfl
theorem xw_859 : Jvm.Cond.selects "WakingLayers$Circumstances" ({ cls := "WakingLayers$Circumstances", name := "foundAtPoint", desc := "([I)I" } : Jvm.MethodName) ({ cls := "WakingLayers$Circumstances", name := "foundAtPoint", desc := "([I)I" } : Jvm.MethodName) ∈ x_ws := x_in 859 (by decide +kernel) rfl
theorem xw_860 : Jvm.Cond.code ({ cls := "WakingLayers$Circumstances", name := "foundAtPoint", desc := "([I)I" } : Jvm.MethodName) prog_4_method_17_code (7 : Nat) (Option.some Jvm.ClassFile.FieldType.int) ∈ x_ws := x_in 860 (by decide +kernel) rfl
theorem xw_861 : Jvm.Cond.methodLink "WakingLayers$Circumstances" (62 : Nat) ({ cls := "WakingLayers$Layer", name := "testHolds", desc := "([I)Z" } : Jvm.MethodName) ∈ x_ws := x_in 861 (by decide +kernel) rfl
theorem xw_862 : Jvm.Cond.instanceMethod ({ cls := "WakingLayers$Layer", name := "testHolds", desc := "([I)Z" } : Jvm.MethodName) ∈ x_ws := x_in 862 (by decide +kernel) rfl
theorem xw_863 : Jvm.Cond.selects "WakingLayers$Layer" ({ cls := "WakingLayers$Layer", name := "testHolds", desc := "([I)Z" } : Jvm.MethodName) ({ cls := "WakingLayers$Layer", name := "testHolds", desc := "([I)Z" } : Jvm.MethodName) ∈ x_ws := x_in 863 (by decide +kernel) rfl
theorem xw_864 : Jvm.Cond.code ({ cls := "WakingLayers$Layer", name := "testHolds", desc := "([I)Z" } : Jvm.MethodName) prog_5_method_5_code (3 : Nat) (Option.some Jvm.ClassFile.FieldType.boolean) ∈ x_ws := x_in 864 (by decide +kernel) rfl
theorem xw_865 : Jvm.Cond.methodLink "WakingLayers$Circumstances" (32 : Nat) ({ cls := "WakingLayers$Circumstances", name := "settled", desc := "(I)I" } : Jvm.MethodName) ∈ x_ws := x_in 865 (by decide +kernel) rfl
theorem xw_866 : Jvm.Cond.instanceMethod ({ cls := "WakingLayers$Circumstances", name := "settled", desc := "(I)I" } : Jvm.MethodName) ∈ x_ws := x_in 866 (by decide +kernel) rfl
theorem xw_867 : Jvm.Cond.selects "WakingLayers$Circumstances" ({ cls := "WakingLayers$Circumstances", name := "settled", desc := "(I)I" } : Jvm.MethodName) ({ cls := "WakingLayers$Circumstances", name := "settled", desc := "(I)I" } : Jvm.MethodName) ∈ x_ws := x_in 867 (by decide +kernel) rfl
theorem xw_868 : Jvm.Cond.code ({ cls := "WakingLayers$Circumstances", name := "settled", desc := "(I)I" } : Jvm.MethodName) prog_4_method_18_code (5 : Nat) (Option.some Jvm.ClassFile.FieldType.int) ∈ x_ws := x_in 868 (by decide +kernel) rfl
theorem xw_872 : Jvm.Cond.code ({ cls := "WakingLayers", name := "wake", desc := "(II)I" } : Jvm.MethodName) prog_1_method_13_code (4 : Nat) (Option.some Jvm.ClassFile.FieldType.int) ∈ x_ws := x_in 872 (by decide +kernel) rfl
theorem xw_873 : Jvm.Cond.methodLink "WakingLayers" (187 : Nat) ({ cls := "WakingLayers$Layer", name := "isWoken", desc := "()Z" } : Jvm.MethodName) ∈ x_ws := x_in 873 (by decide +kernel) rfl
theorem xw_874 : Jvm.Cond.methodLink "WakingLayers" (191 : Nat) ({ cls := "WakingLayers$Program", name := "isThing", desc := "(I)Z" } : Jvm.MethodName) ∈ x_ws := x_in 874 (by decide +kernel) rfl
theorem xw_875 : Jvm.Cond.instanceMethod ({ cls := "WakingLayers$Program", name := "isThing", desc := "(I)Z" } : Jvm.MethodName) ∈ x_ws := x_in 875 (by decide +kernel) rfl
theorem xw_876 : Jvm.Cond.selects "WakingLayers$Program" ({ cls := "WakingLayers$Program", name := "isThing", desc := "(I)Z" } : Jvm.MethodName) ({ cls := "WakingLayers$Program", name := "isThing", desc := "(I)Z" } : Jvm.MethodName) ∈ x_ws := x_in 876 (by decide +kernel) rfl
theorem xw_877 : Jvm.Cond.code ({ cls := "WakingLayers$Program", name := "isThing", desc := "(I)Z" } : Jvm.MethodName) prog_6_method_2_code (2 : Nat) (Option.some Jvm.ClassFile.FieldType.boolean) ∈ x_ws := x_in 877 (by decide +kernel) rfl
theorem xw_878 : Jvm.Cond.constant "WakingLayers" (194 : Nat) (-1000000 : Int32) ∈ x_ws := x_in 878 (by decide +kernel) rfl
theorem xw_879 : Jvm.Cond.methodLink "WakingLayers" (195 : Nat) ({ cls := "WakingLayers$Circumstances", name := "openWaking", desc := "(II)Z" } : Jvm.MethodName) ∈ x_ws := x_in 879 (by decide +kernel) rfl
theorem xw_880 : Jvm.Cond.instanceMethod ({ cls := "WakingLayers$Circumstances", name := "openWaking", desc := "(II)Z" } : Jvm.MethodName) ∈ x_ws := x_in 880 (by decide +kernel) rfl
theorem xw_881 : Jvm.Cond.selects "WakingLayers$Circumstances" ({ cls := "WakingLayers$Circumstances", name := "openWaking", desc := "(II)Z" } : Jvm.MethodName) ({ cls := "WakingLayers$Circumstances", name := "openWaking", desc := "(II)Z" } : Jvm.MethodName) ∈ x_ws := x_in 881 (by decide +kernel) rfl
theorem xw_882 : Jvm.Cond.code ({ cls := "WakingLayers$Circumstances", name := "openWaking", desc := "(II)Z" } : Jvm.MethodName) prog_4_method_6_code (3 : Nat) (Option.some Jvm.ClassFile.FieldType.boolean) ∈ x_ws := x_in 882 (by decide +kernel) rfl
theorem xw_883 : Jvm.Cond.methodLink "WakingLayers" (198 : Nat) ({ cls := "WakingLayers$Circumstances", name := "openCount", desc := "()I" } : Jvm.MethodName) ∈ x_ws := x_in 883 (by decide +kernel) rfl
theorem xw_884 : Jvm.Cond.instanceMethod ({ cls := "WakingLayers$Circumstances", name := "openCount", desc := "()I" } : Jvm.MethodName) ∈ x_ws := x_in 884 (by decide +kernel) rfl
theorem xw_885 : Jvm.Cond.selects "WakingLayers$Circumstances" ({ cls := "WakingLayers$Circumstances", name := "openCount", desc := "()I" } : Jvm.MethodName) ({ cls := "WakingLayers$Circumstances", name := "openCount", desc := "()I" } : Jvm.MethodName) ∈ x_ws := x_in 885 (by decide +kernel) rfl
theorem xw_886 : Jvm.Cond.code ({ cls := "WakingLayers$Circumstances", name := "openCount", desc := "()I" } : Jvm.MethodName) prog_4_method_4_code (1 : Nat) (Option.some Jvm.ClassFile.FieldType.int) ∈ x_ws := x_in 886 (by decide +kernel) rfl
theorem xw_890 : Jvm.Cond.code ({ cls := "WakingLayers", name := "sleep", desc := "(I)I" } : Jvm.MethodName) prog_1_method_14_code (2 : Nat) (Option.some Jvm.ClassFile.FieldType.int) ∈ x_ws := x_in 890 (by decide +kernel) rfl
theorem xw_891 : Jvm.Cond.methodLink "WakingLayers" (201 : Nat) ({ cls := "WakingLayers$Circumstances", name := "closeLatest", desc := "(I)Z" } : Jvm.MethodName) ∈ x_ws := x_in 891 (by decide +kernel) rfl
theorem xw_892 : Jvm.Cond.instanceMethod ({ cls := "WakingLayers$Circumstances", name := "closeLatest", desc := "(I)Z" } : Jvm.MethodName) ∈ x_ws := x_in 892 (by decide +kernel) rfl
theorem xw_893 : Jvm.Cond.selects "WakingLayers$Circumstances" ({ cls := "WakingLayers$Circumstances", name := "closeLatest", desc := "(I)Z" } : Jvm.MethodName) ({ cls := "WakingLayers$Circumstances", name := "closeLatest", desc := "(I)Z" } : Jvm.MethodName) ∈ x_ws := x_in 893 (by decide +kernel) rfl
theorem xw_894 : Jvm.Cond.code ({ cls := "WakingLayers$Circumstances", name := "closeLatest", desc := "(I)Z" } : Jvm.MethodName) prog_4_method_7_code (4 : Nat) (Option.some Jvm.ClassFile.FieldType.boolean) ∈ x_ws := x_in 894 (by decide +kernel) rfl
theorem xw_895 : Jvm.Cond.constant "WakingLayers" (204 : Nat) (-1000002 : Int32) ∈ x_ws := x_in 895 (by decide +kernel) rfl
theorem xw_899 : Jvm.Cond.code ({ cls := "WakingLayers", name := "row", desc := "(III)I" } : Jvm.MethodName) prog_1_method_15_code (5 : Nat) (Option.some Jvm.ClassFile.FieldType.int) ∈ x_ws := x_in 899 (by decide +kernel) rfl
theorem xw_900 : Jvm.Cond.methodLink "WakingLayers" (205 : Nat) ({ cls := "WakingLayers", name := "isRoutine", desc := "(I)Z" } : Jvm.MethodName) ∈ x_ws := x_in 900 (by decide +kernel) rfl
theorem xw_901 : Jvm.Cond.static ({ cls := "WakingLayers", name := "isRoutine", desc := "(I)Z" } : Jvm.MethodName) ∈ x_ws := x_in 901 (by decide +kernel) rfl
theorem xw_902 : Jvm.Cond.code ({ cls := "WakingLayers", name := "isRoutine", desc := "(I)Z" } : Jvm.MethodName) prog_1_method_29_code (1 : Nat) (Option.some Jvm.ClassFile.FieldType.boolean) ∈ x_ws := x_in 902 (by decide +kernel) rfl
theorem xw_903 : Jvm.Cond.methodLink "WakingLayers" (208 : Nat) ({ cls := "WakingLayers$Rows", name := "fill", desc := "([III)I" } : Jvm.MethodName) ∈ x_ws := x_in 903 (by decide +kernel) rfl
theorem xw_904 : Jvm.Cond.instanceMethod ({ cls := "WakingLayers$Rows", name := "fill", desc := "([III)I" } : Jvm.MethodName) ∈ x_ws := x_in 904 (by decide +kernel) rfl
theorem xw_905 : Jvm.Cond.selects "WakingLayers$Rows" ({ cls := "WakingLayers$Rows", name := "fill", desc := "([III)I" } : Jvm.MethodName) ({ cls := "WakingLayers$Rows", name := "fill", desc := "([III)I" } : Jvm.MethodName) ∈ x_ws := x_in 905 (by decide +kernel) rfl
theorem xw_906 : Jvm.Cond.code ({ cls := "WakingLayers$Rows", name := "fill", desc := "([III)I" } : Jvm.MethodName) prog_8_method_2_code (7 : Nat) (Option.some Jvm.ClassFile.FieldType.int) ∈ x_ws := x_in 906 (by decide +kernel) rfl
theorem xw_907 : Jvm.Cond.methodLink "WakingLayers$Rows" (29 : Nat) ({ cls := "WakingLayers$Rows", name := "gatherFitting", desc := "(II)V" } : Jvm.MethodName) ∈ x_ws := x_in 907 (by decide +kernel) rfl
theorem xw_909 : Jvm.Cond.instanceMethod ({ cls := "WakingLayers$Rows", name := "gatherFitting", desc := "(II)V" } : Jvm.MethodName) ∈ x_ws := x_in 909 (by decide +kernel) rfl
theorem xw_910 : Jvm.Cond.code ({ cls := "WakingLayers$Rows", name := "gatherFitting", desc := "(II)V" } : Jvm.MethodName) prog_8_method_5_code (6 : Nat) (Option.none : Option Jvm.ClassFile.FieldType) ∈ x_ws := x_in 910 (by decide +kernel) rfl
theorem xw_911 : Jvm.Cond.methodLink "WakingLayers$Rows" (86 : Nat) ({ cls := "WakingLayers$Body", name := "isFor", desc := "(II)Z" } : Jvm.MethodName) ∈ x_ws := x_in 911 (by decide +kernel) rfl
theorem xw_912 : Jvm.Cond.instanceMethod ({ cls := "WakingLayers$Body", name := "isFor", desc := "(II)Z" } : Jvm.MethodName) ∈ x_ws := x_in 912 (by decide +kernel) rfl
theorem xw_913 : Jvm.Cond.selects "WakingLayers$Body" ({ cls := "WakingLayers$Body", name := "isFor", desc := "(II)Z" } : Jvm.MethodName) ({ cls := "WakingLayers$Body", name := "isFor", desc := "(II)Z" } : Jvm.MethodName) ∈ x_ws := x_in 913 (by decide +kernel) rfl
theorem xw_914 : Jvm.Cond.code ({ cls := "WakingLayers$Body", name := "isFor", desc := "(II)Z" } : Jvm.MethodName) prog_3_method_4_code (3 : Nat) (Option.some Jvm.ClassFile.FieldType.boolean) ∈ x_ws := x_in 914 (by decide +kernel) rfl
theorem xw_915 : Jvm.Cond.methodLink "WakingLayers$Rows" (40 : Nat) ({ cls := "WakingLayers$Rows", name := "weight", desc := "(II)I" } : Jvm.MethodName) ∈ x_ws := x_in 915 (by decide +kernel) rfl
theorem xw_917 : Jvm.Cond.instanceMethod ({ cls := "WakingLayers$Rows", name := "weight", desc := "(II)I" } : Jvm.MethodName) ∈ x_ws := x_in 917 (by decide +kernel) rfl
theorem xw_918 : Jvm.Cond.code ({ cls := "WakingLayers$Rows", name := "weight", desc := "(II)I" } : Jvm.MethodName) prog_8_method_3_code (5 : Nat) (Option.some Jvm.ClassFile.FieldType.int) ∈ x_ws := x_in 918 (by decide +kernel) rfl
theorem xw_919 : Jvm.Cond.methodLink "WakingLayers$Rows" (58 : Nat) ({ cls := "WakingLayers$Layer", name := "isWoken", desc := "()Z" } : Jvm.MethodName) ∈ x_ws := x_in 919 (by decide +kernel) rfl
theorem xw_920 : Jvm.Cond.methodLink "WakingLayers$Rows" (64 : Nat) ({ cls := "WakingLayers$Circumstances", name := "latestOpen", desc := "(II)I" } : Jvm.MethodName) ∈ x_ws := x_in 920 (by decide +kernel) rfl
theorem xw_921 : Jvm.Cond.instanceMethod ({ cls := "WakingLayers$Circumstances", name := "latestOpen", desc := "(II)I" } : Jvm.MethodName) ∈ x_ws := x_in 921 (by decide +kernel) rfl
theorem xw_922 : Jvm.Cond.selects "WakingLayers$Circumstances" ({ cls := "WakingLayers$Circumstances", name := "latestOpen", desc := "(II)I" } : Jvm.MethodName) ({ cls := "WakingLayers$Circumstances", name := "latestOpen", desc := "(II)I" } : Jvm.MethodName) ∈ x_ws := x_in 922 (by decide +kernel) rfl
theorem xw_923 : Jvm.Cond.code ({ cls := "WakingLayers$Circumstances", name := "latestOpen", desc := "(II)I" } : Jvm.MethodName) prog_4_method_9_code (5 : Nat) (Option.some Jvm.ClassFile.FieldType.int) ∈ x_ws := x_in 923 (by decide +kernel) rfl
theorem xw_924 : Jvm.Cond.constant "WakingLayers$Circumstances" (36 : Nat) (-1000000 : Int32) ∈ x_ws := x_in 924 (by decide +kernel) rfl
theorem xw_925 : Jvm.Cond.methodLink "WakingLayers$Rows" (75 : Nat) ({ cls := "WakingLayers$Circumstances", name := "isFound", desc := "(I)Z" } : Jvm.MethodName) ∈ x_ws := x_in 925 (by decide +kernel) rfl
theorem xw_926 : Jvm.Cond.instanceMethod ({ cls := "WakingLayers$Circumstances", name := "isFound", desc := "(I)Z" } : Jvm.MethodName) ∈ x_ws := x_in 926 (by decide +kernel) rfl
theorem xw_927 : Jvm.Cond.selects "WakingLayers$Circumstances" ({ cls := "WakingLayers$Circumstances", name := "isFound", desc := "(I)Z" } : Jvm.MethodName) ({ cls := "WakingLayers$Circumstances", name := "isFound", desc := "(I)Z" } : Jvm.MethodName) ∈ x_ws := x_in 927 (by decide +kernel) rfl
theorem xw_928 : Jvm.Cond.code ({ cls := "WakingLayers$Circumstances", name := "isFound", desc := "(I)Z" } : Jvm.MethodName) prog_4_method_10_code (2 : Nat) (Option.some Jvm.ClassFile.FieldType.boolean) ∈ x_ws := x_in 928 (by decide +kernel) rfl
theorem xw_929 : Jvm.Cond.methodLink "WakingLayers$Rows" (44 : Nat) ({ cls := "WakingLayers$Rows", name := "takeHeaviest", desc := "()I" } : Jvm.MethodName) ∈ x_ws := x_in 929 (by decide +kernel) rfl
theorem xw_931 : Jvm.Cond.instanceMethod ({ cls := "WakingLayers$Rows", name := "takeHeaviest", desc := "()I" } : Jvm.MethodName) ∈ x_ws := x_in 931 (by decide +kernel) rfl
theorem xw_932 : Jvm.Cond.code ({ cls := "WakingLayers$Rows", name := "takeHeaviest", desc := "()I" } : Jvm.MethodName) prog_8_method_4_code (4 : Nat) (Option.some Jvm.ClassFile.FieldType.int) ∈ x_ws := x_in 932 (by decide +kernel) rfl
theorem xw_933 : Jvm.Cond.methodLink "WakingLayers$Rows" (48 : Nat) ({ cls := "WakingLayers$Rows", name := "addBodies", desc := "([III)I" } : Jvm.MethodName) ∈ x_ws := x_in 933 (by decide +kernel) rfl
theorem xw_935 : Jvm.Cond.instanceMethod ({ cls := "WakingLayers$Rows", name := "addBodies", desc := "([III)I" } : Jvm.MethodName) ∈ x_ws := x_in 935 (by decide +kernel) rfl
theorem xw_936 : Jvm.Cond.code ({ cls := "WakingLayers$Rows", name := "addBodies", desc := "([III)I" } : Jvm.MethodName) prog_8_method_6_code (6 : Nat) (Option.some Jvm.ClassFile.FieldType.int) ∈ x_ws := x_in 936 (by decide +kernel) rfl
theorem xw_937 : Jvm.Cond.methodLink "WakingLayers$Rows" (93 : Nat) ({ cls := "WakingLayers$Rows", name := "isEnded", desc := "([II)Z" } : Jvm.MethodName) ∈ x_ws := x_in 937 (by decide +kernel) rfl
theorem xw_939 : Jvm.Cond.instanceMethod ({ cls := "WakingLayers$Rows", name := "isEnded", desc := "([II)Z" } : Jvm.MethodName) ∈ x_ws := x_in 939 (by decide +kernel) rfl
theorem xw_940 : Jvm.Cond.code ({ cls := "WakingLayers$Rows", name := "isEnded", desc := "([II)Z" } : Jvm.MethodName) prog_8_method_7_code (3 : Nat) (Option.some Jvm.ClassFile.FieldType.boolean) ∈ x_ws := x_in 940 (by decide +kernel) rfl
theorem xw_944 : Jvm.Cond.code ({ cls := "WakingLayers", name := "call", desc := "(III)I" } : Jvm.MethodName) prog_1_method_16_code (4 : Nat) (Option.some Jvm.ClassFile.FieldType.int) ∈ x_ws := x_in 944 (by decide +kernel) rfl
theorem xw_945 : Jvm.Cond.methodLink "WakingLayers" (212 : Nat) ({ cls := "WakingLayers", name := "isCall", desc := "(III)Z" } : Jvm.MethodName) ∈ x_ws := x_in 945 (by decide +kernel) rfl
theorem xw_947 : Jvm.Cond.instanceMethod ({ cls := "WakingLayers", name := "isCall", desc := "(III)Z" } : Jvm.MethodName) ∈ x_ws := x_in 947 (by decide +kernel) rfl
theorem xw_948 : Jvm.Cond.code ({ cls := "WakingLayers", name := "isCall", desc := "(III)Z" } : Jvm.MethodName) prog_1_method_28_code (4 : Nat) (Option.some Jvm.ClassFile.FieldType.boolean) ∈ x_ws := x_in 948 (by decide +kernel) rfl
theorem xw_949 : Jvm.Cond.constant "WakingLayers" (289 : Nat) (1000003 : Int32) ∈ x_ws := x_in 949 (by decide +kernel) rfl
theorem xw_950 : Jvm.Cond.methodLink "WakingLayers" (215 : Nat) ({ cls := "WakingLayers$Runner", name := "callOutermost", desc := "(III)I" } : Jvm.MethodName) ∈ x_ws := x_in 950 (by decide +kernel) rfl
theorem xw_951 : Jvm.Cond.instanceMethod ({ cls := "WakingLayers$Runner", name := "callOutermost", desc := "(III)I" } : Jvm.MethodName) ∈ x_ws := x_in 951 (by decide +kernel) rfl
theorem xw_952 : Jvm.Cond.selects "WakingLayers$Runner" ({ cls := "WakingLayers$Runner", name := "callOutermost", desc := "(III)I" } : Jvm.MethodName) ({ cls := "WakingLayers$Runner", name := "callOutermost", desc := "(III)I" } : Jvm.MethodName) ∈ x_ws := x_in 952 (by decide +kernel) rfl
theorem xw_953 : Jvm.Cond.code ({ cls := "WakingLayers$Runner", name := "callOutermost", desc := "(III)I" } : Jvm.MethodName) prog_9_method_4_code (4 : Nat) (Option.some Jvm.ClassFile.FieldType.int) ∈ x_ws := x_in 953 (by decide +kernel) rfl
theorem xw_954 : Jvm.Cond.methodLink "WakingLayers$Runner" (49 : Nat) ({ cls := "WakingLayers$Runner", name := "callAt", desc := "(IIII)I" } : Jvm.MethodName) ∈ x_ws := x_in 954 (by decide +kernel) rfl
theorem xw_956 : Jvm.Cond.instanceMethod ({ cls := "WakingLayers$Runner", name := "callAt", desc := "(IIII)I" } : Jvm.MethodName) ∈ x_ws := x_in 956 (by decide +kernel) rfl
theorem xw_957 : Jvm.Cond.code ({ cls := "WakingLayers$Runner", name := "callAt", desc := "(IIII)I" } : Jvm.MethodName) prog_9_method_5_code (5 : Nat) (Option.some Jvm.ClassFile.FieldType.int) ∈ x_ws := x_in 957 (by decide +kernel) rfl
theorem xw_958 : Jvm.Cond.constant "WakingLayers$Runner" (53 : Nat) (-1000004 : Int32) ∈ x_ws := x_in 958 (by decide +kernel) rfl
theorem xw_959 : Jvm.Cond.methodLink "WakingLayers$Runner" (54 : Nat) ({ cls := "WakingLayers$Rows", name := "fill", desc := "([III)I" } : Jvm.MethodName) ∈ x_ws := x_in 959 (by decide +kernel) rfl
theorem xw_960 : Jvm.Cond.methodLink "WakingLayers$Runner" (60 : Nat) ({ cls := "WakingLayers$Runner", name := "runFrom", desc := "(III)I" } : Jvm.MethodName) ∈ x_ws := x_in 960 (by decide +kernel) rfl
theorem xw_962 : Jvm.Cond.instanceMethod ({ cls := "WakingLayers$Runner", name := "runFrom", desc := "(III)I" } : Jvm.MethodName) ∈ x_ws := x_in 962 (by decide +kernel) rfl
theorem xw_963 : Jvm.Cond.code ({ cls := "WakingLayers$Runner", name := "runFrom", desc := "(III)I" } : Jvm.MethodName) prog_9_method_6_code (6 : Nat) (Option.some Jvm.ClassFile.FieldType.int) ∈ x_ws := x_in 963 (by decide +kernel) rfl
theorem xw_964 : Jvm.Cond.methodLink "WakingLayers$Runner" (64 : Nat) ({ cls := "WakingLayers$Runner", name := "noteBegun", desc := "(I)V" } : Jvm.MethodName) ∈ x_ws := x_in 964 (by decide +kernel) rfl
theorem xw_966 : Jvm.Cond.instanceMethod ({ cls := "WakingLayers$Runner", name := "noteBegun", desc := "(I)V" } : Jvm.MethodName) ∈ x_ws := x_in 966 (by decide +kernel) rfl
theorem xw_967 : Jvm.Cond.code ({ cls := "WakingLayers$Runner", name := "noteBegun", desc := "(I)V" } : Jvm.MethodName) prog_9_method_8_code (2 : Nat) (Option.none : Option Jvm.ClassFile.FieldType) ∈ x_ws := x_in 967 (by decide +kernel) rfl
theorem xw_968 : Jvm.Cond.methodLink "WakingLayers$Runner" (68 : Nat) ({ cls := "WakingLayers$Circumstances", name := "openCount", desc := "()I" } : Jvm.MethodName) ∈ x_ws := x_in 968 (by decide +kernel) rfl
theorem xw_969 : Jvm.Cond.methodLink "WakingLayers$Runner" (83 : Nat) ({ cls := "WakingLayers$Runner", name := "doActs", desc := "(III)I" } : Jvm.MethodName) ∈ x_ws := x_in 969 (by decide +kernel) rfl
theorem xw_971 : Jvm.Cond.instanceMethod ({ cls := "WakingLayers$Runner", name := "doActs", desc := "(III)I" } : Jvm.MethodName) ∈ x_ws := x_in 971 (by decide +kernel) rfl
theorem xw_972 : Jvm.Cond.code ({ cls := "WakingLayers$Runner", name := "doActs", desc := "(III)I" } : Jvm.MethodName) prog_9_method_9_code (7 : Nat) (Option.some Jvm.ClassFile.FieldType.int) ∈ x_ws := x_in 972 (by decide +kernel) rfl
theorem xw_973 : Jvm.Cond.methodLink "WakingLayers$Runner" (95 : Nat) ({ cls := "WakingLayers$Runner", name := "doAct", desc := "(LWakingLayers$Body;IIII)I" } : Jvm.MethodName) ∈ x_ws := x_in 973 (by decide +kernel) rfl
theorem xw_975 : Jvm.Cond.instanceMethod ({ cls := "WakingLayers$Runner", name := "doAct", desc := "(LWakingLayers$Body;IIII)I" } : Jvm.MethodName) ∈ x_ws := x_in 975 (by decide +kernel) rfl
theorem xw_976 : Jvm.Cond.code ({ cls := "WakingLayers$Runner", name := "doAct", desc := "(LWakingLayers$Body;IIII)I" } : Jvm.MethodName) prog_9_method_10_code (7 : Nat) (Option.some Jvm.ClassFile.FieldType.int) ∈ x_ws := x_in 976 (by decide +kernel) rfl
theorem xw_977 : Jvm.Cond.constant "WakingLayers$Runner" (105 : Nat) (1000003 : Int32) ∈ x_ws := x_in 977 (by decide +kernel) rfl
theorem xw_978 : Jvm.Cond.methodLink "WakingLayers$Runner" (112 : Nat) ({ cls := "WakingLayers$Runner", name := "wokenThing", desc := "(II)I" } : Jvm.MethodName) ∈ x_ws := x_in 978 (by decide +kernel) rfl
theorem xw_980 : Jvm.Cond.instanceMethod ({ cls := "WakingLayers$Runner", name := "wokenThing", desc := "(II)I" } : Jvm.MethodName) ∈ x_ws := x_in 980 (by decide +kernel) rfl
theorem xw_981 : Jvm.Cond.code ({ cls := "WakingLayers$Runner", name := "wokenThing", desc := "(II)I" } : Jvm.MethodName) prog_9_method_11_code (3 : Nat) (Option.some Jvm.ClassFile.FieldType.int) ∈ x_ws := x_in 981 (by decide +kernel) rfl
theorem xw_982 : Jvm.Cond.constant "WakingLayers$Runner" (44 : Nat) (-1000000 : Int32) ∈ x_ws := x_in 982 (by decide +kernel) rfl
theorem xw_983 : Jvm.Cond.methodLink "WakingLayers$Runner" (116 : Nat) ({ cls := "WakingLayers$Circumstances", name := "openWaking", desc := "(II)Z" } : Jvm.MethodName) ∈ x_ws := x_in 983 (by decide +kernel) rfl
theorem xw_984 : Jvm.Cond.methodLink "WakingLayers$Runner" (86 : Nat) ({ cls := "WakingLayers$Runner", name := "runBehind", desc := "(III)I" } : Jvm.MethodName) ∈ x_ws := x_in 984 (by decide +kernel) rfl
theorem xw_986 : Jvm.Cond.instanceMethod ({ cls := "WakingLayers$Runner", name := "runBehind", desc := "(III)I" } : Jvm.MethodName) ∈ x_ws := x_in 986 (by decide +kernel) rfl
theorem xw_987 : Jvm.Cond.code ({ cls := "WakingLayers$Runner", name := "runBehind", desc := "(III)I" } : Jvm.MethodName) prog_9_method_7_code (5 : Nat) (Option.some Jvm.ClassFile.FieldType.int) ∈ x_ws := x_in 987 (by decide +kernel) rfl
theorem xw_988 : Jvm.Cond.methodLink "WakingLayers$Runner" (89 : Nat) ({ cls := "WakingLayers$Circumstances", name := "closeDownTo", desc := "(I)V" } : Jvm.MethodName) ∈ x_ws := x_in 988 (by decide +kernel) rfl
theorem xw_989 : Jvm.Cond.instanceMethod ({ cls := "WakingLayers$Circumstances", name := "closeDownTo", desc := "(I)V" } : Jvm.MethodName) ∈ x_ws := x_in 989 (by decide +kernel) rfl
theorem xw_990 : Jvm.Cond.selects "WakingLayers$Circumstances" ({ cls := "WakingLayers$Circumstances", name := "closeDownTo", desc := "(I)V" } : Jvm.MethodName) ({ cls := "WakingLayers$Circumstances", name := "closeDownTo", desc := "(I)V" } : Jvm.MethodName) ∈ x_ws := x_in 990 (by decide +kernel) rfl
theorem xw_991 : Jvm.Cond.code ({ cls := "WakingLayers$Circumstances", name := "closeDownTo", desc := "(I)V" } : Jvm.MethodName) prog_4_method_8_code (2 : Nat) (Option.none : Option Jvm.ClassFile.FieldType) ∈ x_ws := x_in 991 (by decide +kernel) rfl
theorem xw_995 : Jvm.Cond.code ({ cls := "WakingLayers", name := "ran", desc := "(I)I" } : Jvm.MethodName) prog_1_method_17_code (2 : Nat) (Option.some Jvm.ClassFile.FieldType.int) ∈ x_ws := x_in 995 (by decide +kernel) rfl
theorem xw_996 : Jvm.Cond.methodLink "WakingLayers" (218 : Nat) ({ cls := "WakingLayers$Runner", name := "begunCount", desc := "()I" } : Jvm.MethodName) ∈ x_ws := x_in 996 (by decide +kernel) rfl
theorem xw_997 : Jvm.Cond.instanceMethod ({ cls := "WakingLayers$Runner", name := "begunCount", desc := "()I" } : Jvm.MethodName) ∈ x_ws := x_in 997 (by decide +kernel) rfl
theorem xw_998 : Jvm.Cond.selects "WakingLayers$Runner" ({ cls := "WakingLayers$Runner", name := "begunCount", desc := "()I" } : Jvm.MethodName) ({ cls := "WakingLayers$Runner", name := "begunCount", desc := "()I" } : Jvm.MethodName) ∈ x_ws := x_in 998 (by decide +kernel) rfl
theorem xw_999 : Jvm.Cond.code ({ cls := "WakingLayers$Runner", name := "begunCount", desc := "()I" } : Jvm.MethodName) prog_9_method_2_code (1 : Nat) (Option.some Jvm.ClassFile.FieldType.int) ∈ x_ws := x_in 999 (by decide +kernel) rfl
theorem xw_1000 : Jvm.Cond.methodLink "WakingLayers" (221 : Nat) ({ cls := "WakingLayers$Runner", name := "begunAt", desc := "(I)I" } : Jvm.MethodName) ∈ x_ws := x_in 1000 (by decide +kernel) rfl
theorem xw_1001 : Jvm.Cond.instanceMethod ({ cls := "WakingLayers$Runner", name := "begunAt", desc := "(I)I" } : Jvm.MethodName) ∈ x_ws := x_in 1001 (by decide +kernel) rfl
theorem xw_1002 : Jvm.Cond.selects "WakingLayers$Runner" ({ cls := "WakingLayers$Runner", name := "begunAt", desc := "(I)I" } : Jvm.MethodName) ({ cls := "WakingLayers$Runner", name := "begunAt", desc := "(I)I" } : Jvm.MethodName) ∈ x_ws := x_in 1002 (by decide +kernel) rfl
theorem xw_1003 : Jvm.Cond.code ({ cls := "WakingLayers$Runner", name := "begunAt", desc := "(I)I" } : Jvm.MethodName) prog_9_method_3_code (2 : Nat) (Option.some Jvm.ClassFile.FieldType.int) ∈ x_ws := x_in 1003 (by decide +kernel) rfl
theorem xw_1007 : Jvm.Cond.code ({ cls := "WakingLayers", name := "together", desc := "(II)I" } : Jvm.MethodName) prog_1_method_18_code (4 : Nat) (Option.some Jvm.ClassFile.FieldType.int) ∈ x_ws := x_in 1007 (by decide +kernel) rfl
theorem xw_1008 : Jvm.Cond.methodLink "WakingLayers" (224 : Nat) ({ cls := "WakingLayers$SmallWorld", name := "isGreatest", desc := "(I)Z" } : Jvm.MethodName) ∈ x_ws := x_in 1008 (by decide +kernel) rfl
theorem xw_1009 : Jvm.Cond.static ({ cls := "WakingLayers$SmallWorld", name := "isGreatest", desc := "(I)Z" } : Jvm.MethodName) ∈ x_ws := x_in 1009 (by decide +kernel) rfl
theorem xw_1010 : Jvm.Cond.code ({ cls := "WakingLayers$SmallWorld", name := "isGreatest", desc := "(I)Z" } : Jvm.MethodName) prog_11_method_2_code (1 : Nat) (Option.some Jvm.ClassFile.FieldType.boolean) ∈ x_ws := x_in 1010 (by decide +kernel) rfl
theorem xw_1011 : Jvm.Cond.methodLink "WakingLayers" (227 : Nat) ({ cls := "WakingLayers$SmallWorld", name := "gather", desc := "(I)I" } : Jvm.MethodName) ∈ x_ws := x_in 1011 (by decide +kernel) rfl
theorem xw_1012 : Jvm.Cond.instanceMethod ({ cls := "WakingLayers$SmallWorld", name := "gather", desc := "(I)I" } : Jvm.MethodName) ∈ x_ws := x_in 1012 (by decide +kernel) rfl
theorem xw_1013 : Jvm.Cond.selects "WakingLayers$SmallWorld" ({ cls := "WakingLayers$SmallWorld", name := "gather", desc := "(I)I" } : Jvm.MethodName) ({ cls := "WakingLayers$SmallWorld", name := "gather", desc := "(I)I" } : Jvm.MethodName) ∈ x_ws := x_in 1013 (by decide +kernel) rfl
theorem xw_1014 : Jvm.Cond.code ({ cls := "WakingLayers$SmallWorld", name := "gather", desc := "(I)I" } : Jvm.MethodName) prog_11_method_3_code (6 : Nat) (Option.some Jvm.ClassFile.FieldType.int) ∈ x_ws := x_in 1014 (by decide +kernel) rfl
theorem xw_1015 : Jvm.Cond.methodLink "WakingLayers$SmallWorld" (33 : Nat) ({ cls := "WakingLayers$SmallWorld", name := "factsOfWorld", desc := "(II)[I" } : Jvm.MethodName) ∈ x_ws := x_in 1015 (by decide +kernel) rfl
theorem xw_1017 : Jvm.Cond.instanceMethod ({ cls := "WakingLayers$SmallWorld", name := "factsOfWorld", desc := "(II)[I" } : Jvm.MethodName) ∈ x_ws := x_in 1017 (by decide +kernel) rfl
theorem xw_1018 : Jvm.Cond.code ({ cls := "WakingLayers$SmallWorld", name := "factsOfWorld", desc := "(II)[I" } : Jvm.MethodName) prog_11_method_4_code (5 : Nat) (Option.some (Jvm.ClassFile.FieldType.array Jvm.ClassFile.FieldType.int)) ∈ x_ws := x_in 1018 (by decide +kernel) rfl
theorem xw_1019 : Jvm.Cond.methodLink "WakingLayers$SmallWorld" (37 : Nat) ({ cls := "WakingLayers$Circumstances", name := "foundAtPoint", desc := "([I)I" } : Jvm.MethodName) ∈ x_ws := x_in 1019 (by decide +kernel) rfl
theorem xw_1020 : Jvm.Cond.methodLink "WakingLayers" (230 : Nat) ({ cls := "WakingLayers$SmallWorld", name := "gatheredAt", desc := "(I)I" } : Jvm.MethodName) ∈ x_ws := x_in 1020 (by decide +kernel) rfl
theorem xw_1021 : Jvm.Cond.instanceMethod ({ cls := "WakingLayers$SmallWorld", name := "gatheredAt", desc := "(I)I" } : Jvm.MethodName) ∈ x_ws := x_in 1021 (by decide +kernel) rfl
theorem xw_1022 : Jvm.Cond.selects "WakingLayers$SmallWorld" ({ cls := "WakingLayers$SmallWorld", name := "gatheredAt", desc := "(I)I" } : Jvm.MethodName) ({ cls := "WakingLayers$SmallWorld", name := "gatheredAt", desc := "(I)I" } : Jvm.MethodName) ∈ x_ws := x_in 1022 (by decide +kernel) rfl
theorem xw_1023 : Jvm.Cond.code ({ cls := "WakingLayers$SmallWorld", name := "gatheredAt", desc := "(I)I" } : Jvm.MethodName) prog_11_method_5_code (4 : Nat) (Option.some Jvm.ClassFile.FieldType.int) ∈ x_ws := x_in 1023 (by decide +kernel) rfl
theorem xw_1024 : Jvm.Cond.constant "WakingLayers$SmallWorld" (41 : Nat) (-1000000 : Int32) ∈ x_ws := x_in 1024 (by decide +kernel) rfl
theorem xw_1028 : Jvm.Cond.code ({ cls := "WakingLayers", name := "same", desc := "(IIIII)I" } : Jvm.MethodName) prog_1_method_19_code (6 : Nat) (Option.some Jvm.ClassFile.FieldType.int) ∈ x_ws := x_in 1028 (by decide +kernel) rfl
theorem xw_1029 : Jvm.Cond.methodLink "WakingLayers" (233 : Nat) ({ cls := "WakingLayers$SmallWorld", name := "changesNothing", desc := "(IIII)Z" } : Jvm.MethodName) ∈ x_ws := x_in 1029 (by decide +kernel) rfl
theorem xw_1030 : Jvm.Cond.instanceMethod ({ cls := "WakingLayers$SmallWorld", name := "changesNothing", desc := "(IIII)Z" } : Jvm.MethodName) ∈ x_ws := x_in 1030 (by decide +kernel) rfl
theorem xw_1031 : Jvm.Cond.selects "WakingLayers$SmallWorld" ({ cls := "WakingLayers$SmallWorld", name := "changesNothing", desc := "(IIII)Z" } : Jvm.MethodName) ({ cls := "WakingLayers$SmallWorld", name := "changesNothing", desc := "(IIII)Z" } : Jvm.MethodName) ∈ x_ws := x_in 1031 (by decide +kernel) rfl
theorem xw_1032 : Jvm.Cond.code ({ cls := "WakingLayers$SmallWorld", name := "changesNothing", desc := "(IIII)Z" } : Jvm.MethodName) prog_11_method_6_code (11 : Nat) (Option.some Jvm.ClassFile.FieldType.boolean) ∈ x_ws := x_in 1032 (by decide +kernel) rfl
theorem xw_1033 : Jvm.Cond.methodLink "WakingLayers$SmallWorld" (42 : Nat) ({ cls := "WakingLayers$Circumstances", name := "foundSet", desc := "()I" } : Jvm.MethodName) ∈ x_ws := x_in 1033 (by decide +kernel) rfl
theorem xw_1034 : Jvm.Cond.instanceMethod ({ cls := "WakingLayers$Circumstances", name := "foundSet", desc := "()I" } : Jvm.MethodName) ∈ x_ws := x_in 1034 (by decide +kernel) rfl
theorem xw_1035 : Jvm.Cond.selects "WakingLayers$Circumstances" ({ cls := "WakingLayers$Circumstances", name := "foundSet", desc := "()I" } : Jvm.MethodName) ({ cls := "WakingLayers$Circumstances", name := "foundSet", desc := "()I" } : Jvm.MethodName) ∈ x_ws := x_in 1035 (by decide +kernel) rfl
theorem xw_1036 : Jvm.Cond.code ({ cls := "WakingLayers$Circumstances", name := "foundSet", desc := "()I" } : Jvm.MethodName) prog_4_method_11_code (1 : Nat) (Option.some Jvm.ClassFile.FieldType.int) ∈ x_ws := x_in 1036 (by decide +kernel) rfl
theorem xw_1037 : Jvm.Cond.methodLink "WakingLayers$SmallWorld" (46 : Nat) ({ cls := "WakingLayers$Circumstances", name := "setFound", desc := "(I)V" } : Jvm.MethodName) ∈ x_ws := x_in 1037 (by decide +kernel) rfl
theorem xw_1038 : Jvm.Cond.instanceMethod ({ cls := "WakingLayers$Circumstances", name := "setFound", desc := "(I)V" } : Jvm.MethodName) ∈ x_ws := x_in 1038 (by decide +kernel) rfl
theorem xw_1039 : Jvm.Cond.selects "WakingLayers$Circumstances" ({ cls := "WakingLayers$Circumstances", name := "setFound", desc := "(I)V" } : Jvm.MethodName) ({ cls := "WakingLayers$Circumstances", name := "setFound", desc := "(I)V" } : Jvm.MethodName) ∈ x_ws := x_in 1039 (by decide +kernel) rfl
theorem xw_1040 : Jvm.Cond.code ({ cls := "WakingLayers$Circumstances", name := "setFound", desc := "(I)V" } : Jvm.MethodName) prog_4_method_12_code (2 : Nat) (Option.none : Option Jvm.ClassFile.FieldType) ∈ x_ws := x_in 1040 (by decide +kernel) rfl
theorem xw_1041 : Jvm.Cond.methodLink "WakingLayers$SmallWorld" (50 : Nat) ({ cls := "WakingLayers$Runner", name := "callOutermost", desc := "(III)I" } : Jvm.MethodName) ∈ x_ws := x_in 1041 (by decide +kernel) rfl
theorem xw_1042 : Jvm.Cond.methodLink "WakingLayers$SmallWorld" (56 : Nat) ({ cls := "WakingLayers$Circumstances", name := "settled", desc := "(I)I" } : Jvm.MethodName) ∈ x_ws := x_in 1042 (by decide +kernel) rfl
theorem xw_1046 : Jvm.Cond.code ({ cls := "WakingLayers", name := "kind", desc := "(I)I" } : Jvm.MethodName) prog_1_method_20_code (2 : Nat) (Option.some Jvm.ClassFile.FieldType.int) ∈ x_ws := x_in 1046 (by decide +kernel) rfl
theorem xw_1047 : Jvm.Cond.methodLink "WakingLayers" (237 : Nat) ({ cls := "WakingLayers$Asker", name := "kindOf", desc := "(LWakingLayers$Layer;)I" } : Jvm.MethodName) ∈ x_ws := x_in 1047 (by decide +kernel) rfl
theorem xw_1048 : Jvm.Cond.static ({ cls := "WakingLayers$Asker", name := "kindOf", desc := "(LWakingLayers$Layer;)I" } : Jvm.MethodName) ∈ x_ws := x_in 1048 (by decide +kernel) rfl
theorem xw_1049 : Jvm.Cond.code ({ cls := "WakingLayers$Asker", name := "kindOf", desc := "(LWakingLayers$Layer;)I" } : Jvm.MethodName) prog_2_method_4_code (1 : Nat) (Option.some Jvm.ClassFile.FieldType.int) ∈ x_ws := x_in 1049 (by decide +kernel) rfl
theorem xw_1053 : Jvm.Cond.code ({ cls := "WakingLayers", name := "as", desc := "(II)I" } : Jvm.MethodName) prog_1_method_21_code (3 : Nat) (Option.some Jvm.ClassFile.FieldType.int) ∈ x_ws := x_in 1053 (by decide +kernel) rfl
theorem xw_1054 : Jvm.Cond.methodLink "WakingLayers" (241 : Nat) ({ cls := "WakingLayers$Asker", name := "isKind", desc := "(I)Z" } : Jvm.MethodName) ∈ x_ws := x_in 1054 (by decide +kernel) rfl
theorem xw_1055 : Jvm.Cond.static ({ cls := "WakingLayers$Asker", name := "isKind", desc := "(I)Z" } : Jvm.MethodName) ∈ x_ws := x_in 1055 (by decide +kernel) rfl
theorem xw_1056 : Jvm.Cond.code ({ cls := "WakingLayers$Asker", name := "isKind", desc := "(I)Z" } : Jvm.MethodName) prog_2_method_2_code (1 : Nat) (Option.some Jvm.ClassFile.FieldType.boolean) ∈ x_ws := x_in 1056 (by decide +kernel) rfl
theorem xw_1057 : Jvm.Cond.methodLink "WakingLayers" (244 : Nat) ({ cls := "WakingLayers$Asker", name := "isOne", desc := "(II)Z" } : Jvm.MethodName) ∈ x_ws := x_in 1057 (by decide +kernel) rfl
theorem xw_1058 : Jvm.Cond.static ({ cls := "WakingLayers$Asker", name := "isOne", desc := "(II)Z" } : Jvm.MethodName) ∈ x_ws := x_in 1058 (by decide +kernel) rfl
theorem xw_1059 : Jvm.Cond.code ({ cls := "WakingLayers$Asker", name := "isOne", desc := "(II)Z" } : Jvm.MethodName) prog_2_method_5_code (4 : Nat) (Option.some Jvm.ClassFile.FieldType.boolean) ∈ x_ws := x_in 1059 (by decide +kernel) rfl
theorem xw_1060 : Jvm.Cond.fieldLink "WakingLayers$Asker" (32 : Nat) "WakingLayers$Asker" "ABOVE" "[I" ∈ x_ws := x_in 1060 (by decide +kernel) rfl
theorem xw_1065 : Jvm.Cond.code ({ cls := "WakingLayers", name := "ask", desc := "(II)I" } : Jvm.MethodName) prog_1_method_22_code (3 : Nat) (Option.some Jvm.ClassFile.FieldType.int) ∈ x_ws := x_in 1065 (by decide +kernel) rfl
theorem xw_1066 : Jvm.Cond.methodLink "WakingLayers" (247 : Nat) ({ cls := "WakingLayers$Asker", name := "isAsk", desc := "(I)Z" } : Jvm.MethodName) ∈ x_ws := x_in 1066 (by decide +kernel) rfl
theorem xw_1067 : Jvm.Cond.static ({ cls := "WakingLayers$Asker", name := "isAsk", desc := "(I)Z" } : Jvm.MethodName) ∈ x_ws := x_in 1067 (by decide +kernel) rfl
theorem xw_1068 : Jvm.Cond.code ({ cls := "WakingLayers$Asker", name := "isAsk", desc := "(I)Z" } : Jvm.MethodName) prog_2_method_3_code (1 : Nat) (Option.some Jvm.ClassFile.FieldType.boolean) ∈ x_ws := x_in 1068 (by decide +kernel) rfl
theorem xw_1069 : Jvm.Cond.methodLink "WakingLayers" (250 : Nat) ({ cls := "WakingLayers$Asker", name := "clearTrace", desc := "()V" } : Jvm.MethodName) ∈ x_ws := x_in 1069 (by decide +kernel) rfl
theorem xw_1070 : Jvm.Cond.instanceMethod ({ cls := "WakingLayers$Asker", name := "clearTrace", desc := "()V" } : Jvm.MethodName) ∈ x_ws := x_in 1070 (by decide +kernel) rfl
theorem xw_1071 : Jvm.Cond.selects "WakingLayers$Asker" ({ cls := "WakingLayers$Asker", name := "clearTrace", desc := "()V" } : Jvm.MethodName) ({ cls := "WakingLayers$Asker", name := "clearTrace", desc := "()V" } : Jvm.MethodName) ∈ x_ws := x_in 1071 (by decide +kernel) rfl
theorem xw_1072 : Jvm.Cond.code ({ cls := "WakingLayers$Asker", name := "clearTrace", desc := "()V" } : Jvm.MethodName) prog_2_method_7_code (1 : Nat) (Option.none : Option Jvm.ClassFile.FieldType) ∈ x_ws := x_in 1072 (by decide +kernel) rfl
theorem xw_1073 : Jvm.Cond.methodLink "WakingLayers" (253 : Nat) ({ cls := "WakingLayers$Asker", name := "sizeOf", desc := "(I)I" } : Jvm.MethodName) ∈ x_ws := x_in 1073 (by decide +kernel) rfl
theorem xw_1074 : Jvm.Cond.instanceMethod ({ cls := "WakingLayers$Asker", name := "sizeOf", desc := "(I)I" } : Jvm.MethodName) ∈ x_ws := x_in 1074 (by decide +kernel) rfl
theorem xw_1075 : Jvm.Cond.selects "WakingLayers$Asker" ({ cls := "WakingLayers$Asker", name := "sizeOf", desc := "(I)I" } : Jvm.MethodName) ({ cls := "WakingLayers$Asker", name := "sizeOf", desc := "(I)I" } : Jvm.MethodName) ∈ x_ws := x_in 1075 (by decide +kernel) rfl
theorem xw_1076 : Jvm.Cond.code ({ cls := "WakingLayers$Asker", name := "sizeOf", desc := "(I)I" } : Jvm.MethodName) prog_2_method_8_code (2 : Nat) (Option.some Jvm.ClassFile.FieldType.int) ∈ x_ws := x_in 1076 (by decide +kernel) rfl
theorem xw_1077 : Jvm.Cond.methodLink "WakingLayers$Asker" (45 : Nat) ({ cls := "WakingLayers$Asker", name := "kindOf", desc := "(LWakingLayers$Layer;)I" } : Jvm.MethodName) ∈ x_ws := x_in 1077 (by decide +kernel) rfl
theorem xw_1078 : Jvm.Cond.methodLink "WakingLayers$Asker" (49 : Nat) ({ cls := "WakingLayers$Asker", name := "sizeOfSpanned", desc := "(I)I" } : Jvm.MethodName) ∈ x_ws := x_in 1078 (by decide +kernel) rfl
theorem xw_1080 : Jvm.Cond.instanceMethod ({ cls := "WakingLayers$Asker", name := "sizeOfSpanned", desc := "(I)I" } : Jvm.MethodName) ∈ x_ws := x_in 1080 (by decide +kernel) rfl
theorem xw_1081 : Jvm.Cond.code ({ cls := "WakingLayers$Asker", name := "sizeOfSpanned", desc := "(I)I" } : Jvm.MethodName) prog_2_method_11_code (2 : Nat) (Option.some Jvm.ClassFile.FieldType.int) ∈ x_ws := x_in 1081 (by decide +kernel) rfl
theorem xw_1082 : Jvm.Cond.methodLink "WakingLayers$Asker" (74 : Nat) ({ cls := "WakingLayers$Asker", name := "leave", desc := "(I)V" } : Jvm.MethodName) ∈ x_ws := x_in 1082 (by decide +kernel) rfl
theorem xw_1084 : Jvm.Cond.instanceMethod ({ cls := "WakingLayers$Asker", name := "leave", desc := "(I)V" } : Jvm.MethodName) ∈ x_ws := x_in 1084 (by decide +kernel) rfl
theorem xw_1085 : Jvm.Cond.code ({ cls := "WakingLayers$Asker", name := "leave", desc := "(I)V" } : Jvm.MethodName) prog_2_method_18_code (2 : Nat) (Option.none : Option Jvm.ClassFile.FieldType) ∈ x_ws := x_in 1085 (by decide +kernel) rfl
theorem xw_1086 : Jvm.Cond.methodLink "WakingLayers$Asker" (62 : Nat) ({ cls := "WakingLayers$Asker", name := "lentSize", desc := "(I)I" } : Jvm.MethodName) ∈ x_ws := x_in 1086 (by decide +kernel) rfl
theorem xw_1088 : Jvm.Cond.instanceMethod ({ cls := "WakingLayers$Asker", name := "lentSize", desc := "(I)I" } : Jvm.MethodName) ∈ x_ws := x_in 1088 (by decide +kernel) rfl
theorem xw_1089 : Jvm.Cond.code ({ cls := "WakingLayers$Asker", name := "lentSize", desc := "(I)I" } : Jvm.MethodName) prog_2_method_10_code (2 : Nat) (Option.some Jvm.ClassFile.FieldType.int) ∈ x_ws := x_in 1089 (by decide +kernel) rfl
theorem xw_1090 : Jvm.Cond.methodLink "WakingLayers$Asker" (81 : Nat) ({ cls := "WakingLayers$Circumstances", name := "openOf", desc := "(I)I" } : Jvm.MethodName) ∈ x_ws := x_in 1090 (by decide +kernel) rfl
theorem xw_1091 : Jvm.Cond.methodLink "WakingLayers$Asker" (53 : Nat) ({ cls := "WakingLayers$Asker", name := "sizeOfOwned", desc := "(I)I" } : Jvm.MethodName) ∈ x_ws := x_in 1091 (by decide +kernel) rfl
theorem xw_1093 : Jvm.Cond.instanceMethod ({ cls := "WakingLayers$Asker", name := "sizeOfOwned", desc := "(I)I" } : Jvm.MethodName) ∈ x_ws := x_in 1093 (by decide +kernel) rfl
theorem xw_1094 : Jvm.Cond.code ({ cls := "WakingLayers$Asker", name := "sizeOfOwned", desc := "(I)I" } : Jvm.MethodName) prog_2_method_12_code (2 : Nat) (Option.some Jvm.ClassFile.FieldType.int) ∈ x_ws := x_in 1094 (by decide +kernel) rfl
theorem xw_1095 : Jvm.Cond.methodLink "WakingLayers$Asker" (56 : Nat) ({ cls := "WakingLayers$Asker", name := "sizeOfAsked", desc := "(I)I" } : Jvm.MethodName) ∈ x_ws := x_in 1095 (by decide +kernel) rfl
theorem xw_1097 : Jvm.Cond.instanceMethod ({ cls := "WakingLayers$Asker", name := "sizeOfAsked", desc := "(I)I" } : Jvm.MethodName) ∈ x_ws := x_in 1097 (by decide +kernel) rfl
theorem xw_1098 : Jvm.Cond.code ({ cls := "WakingLayers$Asker", name := "sizeOfAsked", desc := "(I)I" } : Jvm.MethodName) prog_2_method_13_code (2 : Nat) (Option.some Jvm.ClassFile.FieldType.int) ∈ x_ws := x_in 1098 (by decide +kernel) rfl
theorem xw_1099 : Jvm.Cond.methodLink "WakingLayers$Asker" (86 : Nat) ({ cls := "WakingLayers$Asker", name := "markOf", desc := "(I)I" } : Jvm.MethodName) ∈ x_ws := x_in 1099 (by decide +kernel) rfl
theorem xw_1100 : Jvm.Cond.instanceMethod ({ cls := "WakingLayers$Asker", name := "markOf", desc := "(I)I" } : Jvm.MethodName) ∈ x_ws := x_in 1100 (by decide +kernel) rfl
theorem xw_1101 : Jvm.Cond.selects "WakingLayers$Asker" ({ cls := "WakingLayers$Asker", name := "markOf", desc := "(I)I" } : Jvm.MethodName) ({ cls := "WakingLayers$Asker", name := "markOf", desc := "(I)I" } : Jvm.MethodName) ∈ x_ws := x_in 1101 (by decide +kernel) rfl
theorem xw_1102 : Jvm.Cond.code ({ cls := "WakingLayers$Asker", name := "markOf", desc := "(I)I" } : Jvm.MethodName) prog_2_method_9_code (2 : Nat) (Option.some Jvm.ClassFile.FieldType.int) ∈ x_ws := x_in 1102 (by decide +kernel) rfl
theorem xw_1103 : Jvm.Cond.methodLink "WakingLayers$Asker" (65 : Nat) ({ cls := "WakingLayers$Asker", name := "markOfAsked", desc := "(I)I" } : Jvm.MethodName) ∈ x_ws := x_in 1103 (by decide +kernel) rfl
theorem xw_1105 : Jvm.Cond.instanceMethod ({ cls := "WakingLayers$Asker", name := "markOfAsked", desc := "(I)I" } : Jvm.MethodName) ∈ x_ws := x_in 1105 (by decide +kernel) rfl
theorem xw_1106 : Jvm.Cond.code ({ cls := "WakingLayers$Asker", name := "markOfAsked", desc := "(I)I" } : Jvm.MethodName) prog_2_method_16_code (2 : Nat) (Option.some Jvm.ClassFile.FieldType.int) ∈ x_ws := x_in 1106 (by decide +kernel) rfl
theorem xw_1107 : Jvm.Cond.methodLink "WakingLayers$Asker" (71 : Nat) ({ cls := "WakingLayers$Asker", name := "lentMark", desc := "(I)I" } : Jvm.MethodName) ∈ x_ws := x_in 1107 (by decide +kernel) rfl
theorem xw_1109 : Jvm.Cond.instanceMethod ({ cls := "WakingLayers$Asker", name := "lentMark", desc := "(I)I" } : Jvm.MethodName) ∈ x_ws := x_in 1109 (by decide +kernel) rfl
theorem xw_1110 : Jvm.Cond.code ({ cls := "WakingLayers$Asker", name := "lentMark", desc := "(I)I" } : Jvm.MethodName) prog_2_method_15_code (2 : Nat) (Option.some Jvm.ClassFile.FieldType.int) ∈ x_ws := x_in 1110 (by decide +kernel) rfl
theorem xw_1111 : Jvm.Cond.methodLink "WakingLayers$Asker" (94 : Nat) ({ cls := "WakingLayers$Program", name := "bodiesOf", desc := "(I)I" } : Jvm.MethodName) ∈ x_ws := x_in 1111 (by decide +kernel) rfl
theorem xw_1112 : Jvm.Cond.instanceMethod ({ cls := "WakingLayers$Program", name := "bodiesOf", desc := "(I)I" } : Jvm.MethodName) ∈ x_ws := x_in 1112 (by decide +kernel) rfl
theorem xw_1113 : Jvm.Cond.selects "WakingLayers$Program" ({ cls := "WakingLayers$Program", name := "bodiesOf", desc := "(I)I" } : Jvm.MethodName) ({ cls := "WakingLayers$Program", name := "bodiesOf", desc := "(I)I" } : Jvm.MethodName) ∈ x_ws := x_in 1113 (by decide +kernel) rfl
theorem xw_1114 : Jvm.Cond.code ({ cls := "WakingLayers$Program", name := "bodiesOf", desc := "(I)I" } : Jvm.MethodName) prog_6_method_8_code (4 : Nat) (Option.some Jvm.ClassFile.FieldType.int) ∈ x_ws := x_in 1114 (by decide +kernel) rfl
theorem xw_1115 : Jvm.Cond.methodLink "WakingLayers$Asker" (97 : Nat) ({ cls := "WakingLayers$Circumstances", name := "isFound", desc := "(I)Z" } : Jvm.MethodName) ∈ x_ws := x_in 1115 (by decide +kernel) rfl
theorem xw_1116 : Jvm.Cond.methodLink "WakingLayers$Asker" (68 : Nat) ({ cls := "WakingLayers$Asker", name := "markOfEver", desc := "(I)I" } : Jvm.MethodName) ∈ x_ws := x_in 1116 (by decide +kernel) rfl
theorem xw_1118 : Jvm.Cond.instanceMethod ({ cls := "WakingLayers$Asker", name := "markOfEver", desc := "(I)I" } : Jvm.MethodName) ∈ x_ws := x_in 1118 (by decide +kernel) rfl
theorem xw_1119 : Jvm.Cond.code ({ cls := "WakingLayers$Asker", name := "markOfEver", desc := "(I)I" } : Jvm.MethodName) prog_2_method_17_code (2 : Nat) (Option.some Jvm.ClassFile.FieldType.int) ∈ x_ws := x_in 1119 (by decide +kernel) rfl
theorem xw_1120 : Jvm.Cond.methodLink "WakingLayers$Asker" (101 : Nat) ({ cls := "WakingLayers$Asker", name := "sizeOf", desc := "(I)I" } : Jvm.MethodName) ∈ x_ws := x_in 1120 (by decide +kernel) rfl
theorem xw_1121 : Jvm.Cond.methodLink "WakingLayers$Asker" (59 : Nat) ({ cls := "WakingLayers$Asker", name := "sizeOfNeeding", desc := "(I)I" } : Jvm.MethodName) ∈ x_ws := x_in 1121 (by decide +kernel) rfl
theorem xw_1123 : Jvm.Cond.instanceMethod ({ cls := "WakingLayers$Asker", name := "sizeOfNeeding", desc := "(I)I" } : Jvm.MethodName) ∈ x_ws := x_in 1123 (by decide +kernel) rfl
theorem xw_1124 : Jvm.Cond.code ({ cls := "WakingLayers$Asker", name := "sizeOfNeeding", desc := "(I)I" } : Jvm.MethodName) prog_2_method_14_code (2 : Nat) (Option.some Jvm.ClassFile.FieldType.int) ∈ x_ws := x_in 1124 (by decide +kernel) rfl
theorem xw_1125 : Jvm.Cond.methodLink "WakingLayers$Asker" (89 : Nat) ({ cls := "java/lang/Integer", name := "bitCount", desc := "(I)I" } : Jvm.MethodName) ∈ x_ws := x_in 1125 (by decide +kernel) rfl
theorem xw_1126 : Jvm.Cond.static ({ cls := "java/lang/Integer", name := "bitCount", desc := "(I)I" } : Jvm.MethodName) ∈ x_ws := x_in 1126 (by decide +kernel) rfl
theorem xw_1127 : Jvm.Cond.code ({ cls := "java/lang/Integer", name := "bitCount", desc := "(I)I" } : Jvm.MethodName) prog_15_method_49_code (1 : Nat) (Option.some Jvm.ClassFile.FieldType.int) ∈ x_ws := x_in 1127 (by decide +kernel) rfl
theorem xw_1128 : Jvm.Cond.constant "java/lang/Integer" (265 : Nat) (1431655765 : Int32) ∈ x_ws := x_in 1128 (by decide +kernel) rfl
theorem xw_1129 : Jvm.Cond.constant "java/lang/Integer" (266 : Nat) (858993459 : Int32) ∈ x_ws := x_in 1129 (by decide +kernel) rfl
theorem xw_1130 : Jvm.Cond.constant "java/lang/Integer" (267 : Nat) (252645135 : Int32) ∈ x_ws := x_in 1130 (by decide +kernel) rfl
theorem xw_1131 : Jvm.Cond.methodLink "WakingLayers" (256 : Nat) ({ cls := "WakingLayers$Asker", name := "markOf", desc := "(I)I" } : Jvm.MethodName) ∈ x_ws := x_in 1131 (by decide +kernel) rfl
theorem xw_1135 : Jvm.Cond.code ({ cls := "WakingLayers", name := "trace", desc := "(I)I" } : Jvm.MethodName) prog_1_method_23_code (2 : Nat) (Option.some Jvm.ClassFile.FieldType.int) ∈ x_ws := x_in 1135 (by decide +kernel) rfl
theorem xw_1136 : Jvm.Cond.methodLink "WakingLayers" (259 : Nat) ({ cls := "WakingLayers$Asker", name := "tracedAt", desc := "(I)I" } : Jvm.MethodName) ∈ x_ws := x_in 1136 (by decide +kernel) rfl
theorem xw_1137 : Jvm.Cond.instanceMethod ({ cls := "WakingLayers$Asker", name := "tracedAt", desc := "(I)I" } : Jvm.MethodName) ∈ x_ws := x_in 1137 (by decide +kernel) rfl
theorem xw_1138 : Jvm.Cond.selects "WakingLayers$Asker" ({ cls := "WakingLayers$Asker", name := "tracedAt", desc := "(I)I" } : Jvm.MethodName) ({ cls := "WakingLayers$Asker", name := "tracedAt", desc := "(I)I" } : Jvm.MethodName) ∈ x_ws := x_in 1138 (by decide +kernel) rfl
theorem xw_1139 : Jvm.Cond.code ({ cls := "WakingLayers$Asker", name := "tracedAt", desc := "(I)I" } : Jvm.MethodName) prog_2_method_6_code (2 : Nat) (Option.some Jvm.ClassFile.FieldType.int) ∈ x_ws := x_in 1139 (by decide +kernel) rfl
theorem xw_1140 : Jvm.Cond.constant "WakingLayers$Asker" (38 : Nat) (-1000000 : Int32) ∈ x_ws := x_in 1140 (by decide +kernel) rfl
theorem xw_1144 : Jvm.Cond.code ({ cls := "WakingLayers", name := "count", desc := "(I)I" } : Jvm.MethodName) prog_1_method_24_code (2 : Nat) (Option.some Jvm.ClassFile.FieldType.int) ∈ x_ws := x_in 1144 (by decide +kernel) rfl
theorem xw_1145 : Jvm.Cond.methodLink "WakingLayers" (262 : Nat) ({ cls := "WakingLayers$Sheets", name := "laidCount", desc := "()I" } : Jvm.MethodName) ∈ x_ws := x_in 1145 (by decide +kernel) rfl
theorem xw_1146 : Jvm.Cond.instanceMethod ({ cls := "WakingLayers$Sheets", name := "laidCount", desc := "()I" } : Jvm.MethodName) ∈ x_ws := x_in 1146 (by decide +kernel) rfl
theorem xw_1147 : Jvm.Cond.selects "WakingLayers$Sheets" ({ cls := "WakingLayers$Sheets", name := "laidCount", desc := "()I" } : Jvm.MethodName) ({ cls := "WakingLayers$Sheets", name := "laidCount", desc := "()I" } : Jvm.MethodName) ∈ x_ws := x_in 1147 (by decide +kernel) rfl
theorem xw_1148 : Jvm.Cond.code ({ cls := "WakingLayers$Sheets", name := "laidCount", desc := "()I" } : Jvm.MethodName) prog_10_method_12_code (3 : Nat) (Option.some Jvm.ClassFile.FieldType.int) ∈ x_ws := x_in 1148 (by decide +kernel) rfl
theorem xw_1149 : Jvm.Cond.methodLink "WakingLayers" (274 : Nat) ({ cls := "WakingLayers$Circumstances", name := "awakeSet", desc := "()I" } : Jvm.MethodName) ∈ x_ws := x_in 1149 (by decide +kernel) rfl
theorem xw_1150 : Jvm.Cond.methodLink "WakingLayers" (277 : Nat) ({ cls := "java/lang/Integer", name := "bitCount", desc := "(I)I" } : Jvm.MethodName) ∈ x_ws := x_in 1150 (by decide +kernel) rfl
theorem xw_1151 : Jvm.Cond.methodLink "WakingLayers" (282 : Nat) ({ cls := "WakingLayers$Tape", name := "length", desc := "()I" } : Jvm.MethodName) ∈ x_ws := x_in 1151 (by decide +kernel) rfl
theorem xw_1152 : Jvm.Cond.instanceMethod ({ cls := "WakingLayers$Tape", name := "length", desc := "()I" } : Jvm.MethodName) ∈ x_ws := x_in 1152 (by decide +kernel) rfl
theorem xw_1153 : Jvm.Cond.selects "WakingLayers$Tape" ({ cls := "WakingLayers$Tape", name := "length", desc := "()I" } : Jvm.MethodName) ({ cls := "WakingLayers$Tape", name := "length", desc := "()I" } : Jvm.MethodName) ∈ x_ws := x_in 1153 (by decide +kernel) rfl
theorem xw_1154 : Jvm.Cond.code ({ cls := "WakingLayers$Tape", name := "length", desc := "()I" } : Jvm.MethodName) prog_12_method_2_code (1 : Nat) (Option.some Jvm.ClassFile.FieldType.int) ∈ x_ws := x_in 1154 (by decide +kernel) rfl
theorem xw_1158 : Jvm.Cond.code ({ cls := "WakingLayers", name := "status", desc := "()I" } : Jvm.MethodName) prog_1_method_25_code (1 : Nat) (Option.some Jvm.ClassFile.FieldType.int) ∈ x_ws := x_in 1158 (by decide +kernel) rfl
theorem xw_1165 : Jvm.Cond.fieldLink "WakingLayersModel" (131 : Nat) "WakingLayersModel" "thrown" "I" ∈ x_ws := x_in 1165 (by decide +kernel) rfl
theorem xw_1166 : Jvm.Cond.fieldLink "WakingLayersModel" (135 : Nat) "WakingLayersModel" "status" "I" ∈ x_ws := x_in 1166 (by decide +kernel) rfl
theorem xw_1167 : Jvm.Cond.fieldLink "WakingLayersModel" (7 : Nat) "WakingLayersModel" "lane" "[I" ∈ x_ws := x_in 1167 (by decide +kernel) rfl
theorem xw_1168 : Jvm.Cond.fieldLink "WakingLayersModel" (13 : Nat) "WakingLayersModel" "many" "[I" ∈ x_ws := x_in 1168 (by decide +kernel) rfl
theorem xw_1169 : Jvm.Cond.fieldLink "WakingLayersModel" (16 : Nat) "WakingLayersModel" "item" "[I" ∈ x_ws := x_in 1169 (by decide +kernel) rfl
theorem xw_1170 : Jvm.Cond.fieldLink "WakingLayersModel" (282 : Nat) "WakingLayersModel" "kinds" "I" ∈ x_ws := x_in 1170 (by decide +kernel) rfl
theorem xw_1171 : Jvm.Cond.fieldLink "WakingLayersModel" (19 : Nat) "WakingLayersModel" "under" "[I" ∈ x_ws := x_in 1171 (by decide +kernel) rfl
theorem xw_1172 : Jvm.Cond.fieldLink "WakingLayersModel" (285 : Nat) "WakingLayersModel" "things" "I" ∈ x_ws := x_in 1172 (by decide +kernel) rfl
theorem xw_1173 : Jvm.Cond.fieldLink "WakingLayersModel" (22 : Nat) "WakingLayersModel" "thingKind" "[I" ∈ x_ws := x_in 1173 (by decide +kernel) rfl
theorem xw_1174 : Jvm.Cond.fieldLink "WakingLayersModel" (25 : Nat) "WakingLayersModel" "thingValue" "[I" ∈ x_ws := x_in 1174 (by decide +kernel) rfl
theorem xw_1175 : Jvm.Cond.fieldLink "WakingLayersModel" (288 : Nat) "WakingLayersModel" "layers" "I" ∈ x_ws := x_in 1175 (by decide +kernel) rfl
theorem xw_1176 : Jvm.Cond.fieldLink "WakingLayersModel" (28 : Nat) "WakingLayersModel" "sort" "[I" ∈ x_ws := x_in 1176 (by decide +kernel) rfl
theorem xw_1177 : Jvm.Cond.fieldLink "WakingLayersModel" (31 : Nat) "WakingLayersModel" "rank" "[I" ∈ x_ws := x_in 1177 (by decide +kernel) rfl
theorem xw_1178 : Jvm.Cond.fieldLink "WakingLayersModel" (34 : Nat) "WakingLayersModel" "testFact" "[I" ∈ x_ws := x_in 1178 (by decide +kernel) rfl
theorem xw_1179 : Jvm.Cond.fieldLink "WakingLayersModel" (37 : Nat) "WakingLayersModel" "testSign" "[I" ∈ x_ws := x_in 1179 (by decide +kernel) rfl
theorem xw_1180 : Jvm.Cond.fieldLink "WakingLayersModel" (40 : Nat) "WakingLayersModel" "testNumber" "[I" ∈ x_ws := x_in 1180 (by decide +kernel) rfl
theorem xw_1181 : Jvm.Cond.fieldLink "WakingLayersModel" (43 : Nat) "WakingLayersModel" "needs" "[I" ∈ x_ws := x_in 1181 (by decide +kernel) rfl
theorem xw_1182 : Jvm.Cond.fieldLink "WakingLayersModel" (46 : Nat) "WakingLayersModel" "bars" "[I" ∈ x_ws := x_in 1182 (by decide +kernel) rfl
theorem xw_1183 : Jvm.Cond.fieldLink "WakingLayersModel" (291 : Nat) "WakingLayersModel" "bodies" "I" ∈ x_ws := x_in 1183 (by decide +kernel) rfl
theorem xw_1184 : Jvm.Cond.fieldLink "WakingLayersModel" (49 : Nat) "WakingLayersModel" "bodyLayer" "[I" ∈ x_ws := x_in 1184 (by decide +kernel) rfl
theorem xw_1185 : Jvm.Cond.fieldLink "WakingLayersModel" (52 : Nat) "WakingLayersModel" "bodyKind" "[I" ∈ x_ws := x_in 1185 (by decide +kernel) rfl
theorem xw_1186 : Jvm.Cond.fieldLink "WakingLayersModel" (55 : Nat) "WakingLayersModel" "bodyRoutine" "[I" ∈ x_ws := x_in 1186 (by decide +kernel) rfl
theorem xw_1187 : Jvm.Cond.fieldLink "WakingLayersModel" (58 : Nat) "WakingLayersModel" "way" "[I" ∈ x_ws := x_in 1187 (by decide +kernel) rfl
theorem xw_1188 : Jvm.Cond.fieldLink "WakingLayersModel" (61 : Nat) "WakingLayersModel" "acts" "[I" ∈ x_ws := x_in 1188 (by decide +kernel) rfl
theorem xw_1189 : Jvm.Cond.fieldLink "WakingLayersModel" (64 : Nat) "WakingLayersModel" "act" "[I" ∈ x_ws := x_in 1189 (by decide +kernel) rfl
theorem xw_1190 : Jvm.Cond.fieldLink "WakingLayersModel" (67 : Nat) "WakingLayersModel" "tape" "[I" ∈ x_ws := x_in 1190 (by decide +kernel) rfl
theorem xw_1191 : Jvm.Cond.fieldLink "WakingLayersModel" (158 : Nat) "WakingLayersModel" "taped" "I" ∈ x_ws := x_in 1191 (by decide +kernel) rfl
theorem xw_1192 : Jvm.Cond.fieldLink "WakingLayersModel" (312 : Nat) "WakingLayersModel" "latest" "I" ∈ x_ws := x_in 1192 (by decide +kernel) rfl
theorem xw_1193 : Jvm.Cond.fieldLink "WakingLayersModel" (164 : Nat) "WakingLayersModel" "size" "I" ∈ x_ws := x_in 1193 (by decide +kernel) rfl
theorem xw_1194 : Jvm.Cond.fieldLink "WakingLayersModel" (168 : Nat) "WakingLayersModel" "cursor" "I" ∈ x_ws := x_in 1194 (by decide +kernel) rfl
theorem xw_1195 : Jvm.Cond.fieldLink "WakingLayersModel" (177 : Nat) "WakingLayersModel" "token" "I" ∈ x_ws := x_in 1195 (by decide +kernel) rfl
theorem xw_1196 : Jvm.Cond.fieldLink "WakingLayersModel" (174 : Nat) "WakingLayersModel" "from" "I" ∈ x_ws := x_in 1196 (by decide +kernel) rfl
theorem xw_1197 : Jvm.Cond.fieldLink "WakingLayersModel" (189 : Nat) "WakingLayersModel" "till" "I" ∈ x_ws := x_in 1197 (by decide +kernel) rfl
theorem xw_1198 : Jvm.Cond.fieldLink "WakingLayersModel" (192 : Nat) "WakingLayersModel" "fault" "I" ∈ x_ws := x_in 1198 (by decide +kernel) rfl
theorem xw_1199 : Jvm.Cond.fieldLink "WakingLayersModel" (195 : Nat) "WakingLayersModel" "faultAt" "I" ∈ x_ws := x_in 1199 (by decide +kernel) rfl
theorem xw_1200 : Jvm.Cond.fieldLink "WakingLayersModel" (243 : Nat) "WakingLayersModel" "newKinds" "I" ∈ x_ws := x_in 1200 (by decide +kernel) rfl
theorem xw_1201 : Jvm.Cond.fieldLink "WakingLayersModel" (251 : Nat) "WakingLayersModel" "newThings" "I" ∈ x_ws := x_in 1201 (by decide +kernel) rfl
theorem xw_1202 : Jvm.Cond.fieldLink "WakingLayersModel" (254 : Nat) "WakingLayersModel" "newLayers" "I" ∈ x_ws := x_in 1202 (by decide +kernel) rfl
theorem xw_1203 : Jvm.Cond.fieldLink "WakingLayersModel" (271 : Nat) "WakingLayersModel" "newBodies" "I" ∈ x_ws := x_in 1203 (by decide +kernel) rfl
theorem xw_1204 : Jvm.Cond.fieldLink "WakingLayersModel" (70 : Nat) "WakingLayersModel" "told" "[I" ∈ x_ws := x_in 1204 (by decide +kernel) rfl
theorem xw_1205 : Jvm.Cond.fieldLink "WakingLayersModel" (73 : Nat) "WakingLayersModel" "hold" "[I" ∈ x_ws := x_in 1205 (by decide +kernel) rfl
theorem xw_1206 : Jvm.Cond.fieldLink "WakingLayersModel" (316 : Nat) "WakingLayersModel" "open" "I" ∈ x_ws := x_in 1206 (by decide +kernel) rfl
theorem xw_1207 : Jvm.Cond.fieldLink "WakingLayersModel" (76 : Nat) "WakingLayersModel" "openLayer" "[I" ∈ x_ws := x_in 1207 (by decide +kernel) rfl
theorem xw_1208 : Jvm.Cond.fieldLink "WakingLayersModel" (79 : Nat) "WakingLayersModel" "openThing" "[I" ∈ x_ws := x_in 1208 (by decide +kernel) rfl
theorem xw_1209 : Jvm.Cond.fieldLink "WakingLayersModel" (319 : Nat) "WakingLayersModel" "found" "I" ∈ x_ws := x_in 1209 (by decide +kernel) rfl
theorem xw_1210 : Jvm.Cond.fieldLink "WakingLayersModel" (82 : Nat) "WakingLayersModel" "rowSize" "[I" ∈ x_ws := x_in 1210 (by decide +kernel) rfl
theorem xw_1211 : Jvm.Cond.fieldLink "WakingLayersModel" (85 : Nat) "WakingLayersModel" "rowBody" "[I" ∈ x_ws := x_in 1211 (by decide +kernel) rfl
theorem xw_1212 : Jvm.Cond.fieldLink "WakingLayersModel" (88 : Nat) "WakingLayersModel" "callThing" "[I" ∈ x_ws := x_in 1212 (by decide +kernel) rfl
theorem xw_1213 : Jvm.Cond.fieldLink "WakingLayersModel" (378 : Nat) "WakingLayersModel" "piled" "I" ∈ x_ws := x_in 1213 (by decide +kernel) rfl
theorem xw_1214 : Jvm.Cond.fieldLink "WakingLayersModel" (91 : Nat) "WakingLayersModel" "pileCall" "[I" ∈ x_ws := x_in 1214 (by decide +kernel) rfl
theorem xw_1215 : Jvm.Cond.fieldLink "WakingLayersModel" (94 : Nat) "WakingLayersModel" "pileAt" "[I" ∈ x_ws := x_in 1215 (by decide +kernel) rfl
theorem xw_1216 : Jvm.Cond.fieldLink "WakingLayersModel" (97 : Nat) "WakingLayersModel" "pileHad" "[I" ∈ x_ws := x_in 1216 (by decide +kernel) rfl
theorem xw_1217 : Jvm.Cond.fieldLink "WakingLayersModel" (100 : Nat) "WakingLayersModel" "pileNumber" "[I" ∈ x_ws := x_in 1217 (by decide +kernel) rfl
theorem xw_1218 : Jvm.Cond.fieldLink "WakingLayersModel" (103 : Nat) "WakingLayersModel" "pileAct" "[I" ∈ x_ws := x_in 1218 (by decide +kernel) rfl
theorem xw_1219 : Jvm.Cond.fieldLink "WakingLayersModel" (106 : Nat) "WakingLayersModel" "pileWakes" "[I" ∈ x_ws := x_in 1219 (by decide +kernel) rfl
theorem xw_1220 : Jvm.Cond.fieldLink "WakingLayersModel" (109 : Nat) "WakingLayersModel" "pileWaits" "[I" ∈ x_ws := x_in 1220 (by decide +kernel) rfl
theorem xw_1221 : Jvm.Cond.fieldLink "WakingLayersModel" (112 : Nat) "WakingLayersModel" "pileFails" "[Z" ∈ x_ws := x_in 1221 (by decide +kernel) rfl
theorem xw_1222 : Jvm.Cond.fieldLink "WakingLayersModel" (397 : Nat) "WakingLayersModel" "begun" "I" ∈ x_ws := x_in 1222 (by decide +kernel) rfl
theorem xw_1223 : Jvm.Cond.fieldLink "WakingLayersModel" (116 : Nat) "WakingLayersModel" "began" "[I" ∈ x_ws := x_in 1223 (by decide +kernel) rfl
theorem xw_1224 : Jvm.Cond.fieldLink "WakingLayersModel" (400 : Nat) "WakingLayersModel" "spent" "Z" ∈ x_ws := x_in 1224 (by decide +kernel) rfl
theorem xw_1225 : Jvm.Cond.fieldLink "WakingLayersModel" (388 : Nat) "WakingLayersModel" "back" "Z" ∈ x_ws := x_in 1225 (by decide +kernel) rfl
theorem xw_1226 : Jvm.Cond.fieldLink "WakingLayersModel" (384 : Nat) "WakingLayersModel" "failed" "Z" ∈ x_ws := x_in 1226 (by decide +kernel) rfl
theorem xw_1227 : Jvm.Cond.fieldLink "WakingLayersModel" (381 : Nat) "WakingLayersModel" "value" "I" ∈ x_ws := x_in 1227 (by decide +kernel) rfl
theorem xw_1228 : Jvm.Cond.fieldLink "WakingLayersModel" (391 : Nat) "WakingLayersModel" "call" "I" ∈ x_ws := x_in 1228 (by decide +kernel) rfl
theorem xw_1229 : Jvm.Cond.fieldLink "WakingLayersModel" (394 : Nat) "WakingLayersModel" "place" "I" ∈ x_ws := x_in 1229 (by decide +kernel) rfl
theorem xw_1230 : Jvm.Cond.fieldLink "WakingLayersModel" (433 : Nat) "WakingLayersModel" "ranMany" "I" ∈ x_ws := x_in 1230 (by decide +kernel) rfl
theorem xw_1231 : Jvm.Cond.fieldLink "WakingLayersModel" (119 : Nat) "WakingLayersModel" "ranBody" "[I" ∈ x_ws := x_in 1231 (by decide +kernel) rfl
theorem xw_1232 : Jvm.Cond.fieldLink "WakingLayersModel" (122 : Nat) "WakingLayersModel" "keptHold" "[I" ∈ x_ws := x_in 1232 (by decide +kernel) rfl
theorem xw_1233 : Jvm.Cond.fieldLink "WakingLayersModel" (438 : Nat) "WakingLayersModel" "keptFound" "I" ∈ x_ws := x_in 1233 (by decide +kernel) rfl
theorem xw_1234 : Jvm.Cond.fieldLink "WakingLayersModel" (125 : Nat) "WakingLayersModel" "isSet" "[Z" ∈ x_ws := x_in 1234 (by decide +kernel) rfl
theorem xw_1235 : Jvm.Cond.fieldLink "WakingLayersModel" (128 : Nat) "WakingLayersModel" "trace" "[I" ∈ x_ws := x_in 1235 (by decide +kernel) rfl
theorem xw_1236 : Jvm.Cond.fieldLink "WakingLayersModel" (460 : Nat) "WakingLayersModel" "traced" "I" ∈ x_ws := x_in 1236 (by decide +kernel) rfl
theorem xw_1385 : Jvm.Cond.code ({ cls := "WakingLayersModel", name := "sheet", desc := "(III)I" } : Jvm.MethodName) prog_14_method_6_code (5 : Nat) (Option.some Jvm.ClassFile.FieldType.int) ∈ x_ws := x_in 1385 (by decide +kernel) rfl
theorem xw_1386 : Jvm.Cond.methodLink "WakingLayersModel" (145 : Nat) ({ cls := "WakingLayersModel", name := "isSheet", desc := "(I)Z" } : Jvm.MethodName) ∈ x_ws := x_in 1386 (by decide +kernel) rfl
theorem xw_1387 : Jvm.Cond.static ({ cls := "WakingLayersModel", name := "isSheet", desc := "(I)Z" } : Jvm.MethodName) ∈ x_ws := x_in 1387 (by decide +kernel) rfl
theorem xw_1388 : Jvm.Cond.code ({ cls := "WakingLayersModel", name := "isSheet", desc := "(I)Z" } : Jvm.MethodName) prog_14_method_5_code (1 : Nat) (Option.some Jvm.ClassFile.FieldType.boolean) ∈ x_ws := x_in 1388 (by decide +kernel) rfl
theorem xw_1389 : Jvm.Cond.constantLong "WakingLayersModel" (139 : Nat) (7 : Int64) ∈ x_ws := x_in 1389 (by decide +kernel) rfl
theorem xw_1390 : Jvm.Cond.methodLink "WakingLayersModel" (141 : Nat) ({ cls := "WakingLayersModel", name := "in", desc := "(JJJ)Z" } : Jvm.MethodName) ∈ x_ws := x_in 1390 (by decide +kernel) rfl
theorem xw_1391 : Jvm.Cond.static ({ cls := "WakingLayersModel", name := "in", desc := "(JJJ)Z" } : Jvm.MethodName) ∈ x_ws := x_in 1391 (by decide +kernel) rfl
theorem xw_1392 : Jvm.Cond.code ({ cls := "WakingLayersModel", name := "in", desc := "(JJJ)Z" } : Jvm.MethodName) prog_14_method_3_code (6 : Nat) (Option.some Jvm.ClassFile.FieldType.boolean) ∈ x_ws := x_in 1392 (by decide +kernel) rfl
theorem xw_1393 : Jvm.Cond.constantLong "WakingLayersModel" (149 : Nat) (2 : Int64) ∈ x_ws := x_in 1393 (by decide +kernel) rfl
theorem xw_1394 : Jvm.Cond.constant "WakingLayersModel" (151 : Nat) (-1000001 : Int32) ∈ x_ws := x_in 1394 (by decide +kernel) rfl
theorem xw_1395 : Jvm.Cond.methodLink "WakingLayersModel" (152 : Nat) ({ cls := "WakingLayersModel", name := "finding", desc := "(I)I" } : Jvm.MethodName) ∈ x_ws := x_in 1395 (by decide +kernel) rfl
theorem xw_1397 : Jvm.Cond.instanceMethod ({ cls := "WakingLayersModel", name := "finding", desc := "(I)I" } : Jvm.MethodName) ∈ x_ws := x_in 1397 (by decide +kernel) rfl
theorem xw_1398 : Jvm.Cond.code ({ cls := "WakingLayersModel", name := "finding", desc := "(I)I" } : Jvm.MethodName) prog_14_method_4_code (2 : Nat) (Option.some Jvm.ClassFile.FieldType.int) ∈ x_ws := x_in 1398 (by decide +kernel) rfl
theorem xw_1399 : Jvm.Cond.constant "WakingLayersModel" (138 : Nat) (-1000010 : Int32) ∈ x_ws := x_in 1399 (by decide +kernel) rfl
theorem xw_1403 : Jvm.Cond.code ({ cls := "WakingLayersModel", name := "set", desc := "(III)I" } : Jvm.MethodName) prog_14_method_7_code (4 : Nat) (Option.some Jvm.ClassFile.FieldType.int) ∈ x_ws := x_in 1403 (by decide +kernel) rfl
theorem xw_1407 : Jvm.Cond.code ({ cls := "WakingLayersModel", name := "copy", desc := "(IIIII)I" } : Jvm.MethodName) prog_14_method_8_code (9 : Nat) (Option.some Jvm.ClassFile.FieldType.int) ∈ x_ws := x_in 1407 (by decide +kernel) rfl
theorem xw_1411 : Jvm.Cond.code ({ cls := "WakingLayersModel", name := "drop", desc := "(I)I" } : Jvm.MethodName) prog_14_method_9_code (2 : Nat) (Option.some Jvm.ClassFile.FieldType.int) ∈ x_ws := x_in 1411 (by decide +kernel) rfl
theorem xw_1415 : Jvm.Cond.code ({ cls := "WakingLayersModel", name := "feed", desc := "(JI)I" } : Jvm.MethodName) prog_14_method_10_code (5 : Nat) (Option.some Jvm.ClassFile.FieldType.int) ∈ x_ws := x_in 1415 (by decide +kernel) rfl
theorem xw_1416 : Jvm.Cond.constantLong "WakingLayersModel" (156 : Nat) (8 : Int64) ∈ x_ws := x_in 1416 (by decide +kernel) rfl
theorem xw_1417 : Jvm.Cond.constant "WakingLayersModel" (161 : Nat) (-1000003 : Int32) ∈ x_ws := x_in 1417 (by decide +kernel) rfl
theorem xw_1418 : Jvm.Cond.constantLong "WakingLayersModel" (162 : Nat) (255 : Int64) ∈ x_ws := x_in 1418 (by decide +kernel) rfl
theorem xw_1422 : Jvm.Cond.code ({ cls := "WakingLayersModel", name := "read", desc := "()I" } : Jvm.MethodName) prog_14_method_29_code (3 : Nat) (Option.some Jvm.ClassFile.FieldType.int) ∈ x_ws := x_in 1422 (by decide +kernel) rfl
theorem xw_1423 : Jvm.Cond.methodLink "WakingLayersModel" (202 : Nat) ({ cls := "WakingLayersModel", name := "step", desc := "()V" } : Jvm.MethodName) ∈ x_ws := x_in 1423 (by decide +kernel) rfl
theorem xw_1425 : Jvm.Cond.instanceMethod ({ cls := "WakingLayersModel", name := "step", desc := "()V" } : Jvm.MethodName) ∈ x_ws := x_in 1425 (by decide +kernel) rfl
theorem xw_1426 : Jvm.Cond.code ({ cls := "WakingLayersModel", name := "step", desc := "()V" } : Jvm.MethodName) prog_14_method_15_code (2 : Nat) (Option.none : Option Jvm.ClassFile.FieldType) ∈ x_ws := x_in 1426 (by decide +kernel) rfl
theorem xw_1427 : Jvm.Cond.methodLink "WakingLayersModel" (171 : Nat) ({ cls := "WakingLayersModel", name := "byteAt", desc := "(I)I" } : Jvm.MethodName) ∈ x_ws := x_in 1427 (by decide +kernel) rfl
theorem xw_1429 : Jvm.Cond.instanceMethod ({ cls := "WakingLayersModel", name := "byteAt", desc := "(I)I" } : Jvm.MethodName) ∈ x_ws := x_in 1429 (by decide +kernel) rfl
theorem xw_1430 : Jvm.Cond.code ({ cls := "WakingLayersModel", name := "byteAt", desc := "(I)I" } : Jvm.MethodName) prog_14_method_11_code (2 : Nat) (Option.some Jvm.ClassFile.FieldType.int) ∈ x_ws := x_in 1430 (by decide +kernel) rfl
theorem xw_1431 : Jvm.Cond.constant "WakingLayersModel" (167 : Nat) (-1000000 : Int32) ∈ x_ws := x_in 1431 (by decide +kernel) rfl
theorem xw_1432 : Jvm.Cond.methodLink "WakingLayersModel" (180 : Nat) ({ cls := "WakingLayersModel", name := "isLetter", desc := "(I)Z" } : Jvm.MethodName) ∈ x_ws := x_in 1432 (by decide +kernel) rfl
theorem xw_1433 : Jvm.Cond.static ({ cls := "WakingLayersModel", name := "isLetter", desc := "(I)Z" } : Jvm.MethodName) ∈ x_ws := x_in 1433 (by decide +kernel) rfl
theorem xw_1434 : Jvm.Cond.code ({ cls := "WakingLayersModel", name := "isLetter", desc := "(I)Z" } : Jvm.MethodName) prog_14_method_12_code (1 : Nat) (Option.some Jvm.ClassFile.FieldType.boolean) ∈ x_ws := x_in 1434 (by decide +kernel) rfl
theorem xw_1435 : Jvm.Cond.methodLink "WakingLayersModel" (183 : Nat) ({ cls := "WakingLayersModel", name := "isFigure", desc := "(I)Z" } : Jvm.MethodName) ∈ x_ws := x_in 1435 (by decide +kernel) rfl
theorem xw_1436 : Jvm.Cond.static ({ cls := "WakingLayersModel", name := "isFigure", desc := "(I)Z" } : Jvm.MethodName) ∈ x_ws := x_in 1436 (by decide +kernel) rfl
theorem xw_1437 : Jvm.Cond.code ({ cls := "WakingLayersModel", name := "isFigure", desc := "(I)Z" } : Jvm.MethodName) prog_14_method_13_code (1 : Nat) (Option.some Jvm.ClassFile.FieldType.boolean) ∈ x_ws := x_in 1437 (by decide +kernel) rfl
theorem xw_1438 : Jvm.Cond.methodLink "WakingLayersModel" (186 : Nat) ({ cls := "WakingLayersModel", name := "isSign", desc := "(I)Z" } : Jvm.MethodName) ∈ x_ws := x_in 1438 (by decide +kernel) rfl
theorem xw_1439 : Jvm.Cond.static ({ cls := "WakingLayersModel", name := "isSign", desc := "(I)Z" } : Jvm.MethodName) ∈ x_ws := x_in 1439 (by decide +kernel) rfl
theorem xw_1440 : Jvm.Cond.code ({ cls := "WakingLayersModel", name := "isSign", desc := "(I)Z" } : Jvm.MethodName) prog_14_method_14_code (1 : Nat) (Option.some Jvm.ClassFile.FieldType.boolean) ∈ x_ws := x_in 1440 (by decide +kernel) rfl
theorem xw_1441 : Jvm.Cond.methodLink "WakingLayersModel" (209 : Nat) ({ cls := "WakingLayersModel", name := "word", desc := "()J" } : Jvm.MethodName) ∈ x_ws := x_in 1441 (by decide +kernel) rfl
theorem xw_1443 : Jvm.Cond.instanceMethod ({ cls := "WakingLayersModel", name := "word", desc := "()J" } : Jvm.MethodName) ∈ x_ws := x_in 1443 (by decide +kernel) rfl
theorem xw_1444 : Jvm.Cond.code ({ cls := "WakingLayersModel", name := "word", desc := "()J" } : Jvm.MethodName) prog_14_method_19_code (4 : Nat) (Option.some Jvm.ClassFile.FieldType.long) ∈ x_ws := x_in 1444 (by decide +kernel) rfl
theorem xw_1445 : Jvm.Cond.constantLong "WakingLayersModel" (294 : Nat) (1802071652 : Int64) ∈ x_ws := x_in 1445 (by decide +kernel) rfl
theorem xw_1446 : Jvm.Cond.constantLong "WakingLayersModel" (215 : Nat) (499967946343 : Int64) ∈ x_ws := x_in 1446 (by decide +kernel) rfl
theorem xw_1447 : Jvm.Cond.constantLong "WakingLayersModel" (296 : Nat) (465491813746 : Int64) ∈ x_ws := x_in 1447 (by decide +kernel) rfl
theorem xw_1448 : Jvm.Cond.constantLong "WakingLayersModel" (298 : Nat) (1651467385 : Int64) ∈ x_ws := x_in 1448 (by decide +kernel) rfl
theorem xw_1449 : Jvm.Cond.methodLink "WakingLayersModel" (198 : Nat) ({ cls := "WakingLayersModel", name := "bad", desc := "(I)V" } : Jvm.MethodName) ∈ x_ws := x_in 1449 (by decide +kernel) rfl
theorem xw_1451 : Jvm.Cond.instanceMethod ({ cls := "WakingLayersModel", name := "bad", desc := "(I)V" } : Jvm.MethodName) ∈ x_ws := x_in 1451 (by decide +kernel) rfl
theorem xw_1452 : Jvm.Cond.code ({ cls := "WakingLayersModel", name := "bad", desc := "(I)V" } : Jvm.MethodName) prog_14_method_16_code (2 : Nat) (Option.none : Option Jvm.ClassFile.FieldType) ∈ x_ws := x_in 1452 (by decide +kernel) rfl
theorem xw_1453 : Jvm.Cond.methodLink "WakingLayersModel" (205 : Nat) ({ cls := "WakingLayersModel", name := "must", desc := "(Z)V" } : Jvm.MethodName) ∈ x_ws := x_in 1453 (by decide +kernel) rfl
theorem xw_1455 : Jvm.Cond.instanceMethod ({ cls := "WakingLayersModel", name := "must", desc := "(Z)V" } : Jvm.MethodName) ∈ x_ws := x_in 1455 (by decide +kernel) rfl
theorem xw_1456 : Jvm.Cond.code ({ cls := "WakingLayersModel", name := "must", desc := "(Z)V" } : Jvm.MethodName) prog_14_method_17_code (2 : Nat) (Option.none : Option Jvm.ClassFile.FieldType) ∈ x_ws := x_in 1456 (by decide +kernel) rfl
theorem xw_1457 : Jvm.Cond.methodLink "WakingLayersModel" (300 : Nat) ({ cls := "WakingLayersModel", name := "readKind", desc := "()V" } : Jvm.MethodName) ∈ x_ws := x_in 1457 (by decide +kernel) rfl
theorem xw_1459 : Jvm.Cond.instanceMethod ({ cls := "WakingLayersModel", name := "readKind", desc := "()V" } : Jvm.MethodName) ∈ x_ws := x_in 1459 (by decide +kernel) rfl
theorem xw_1460 : Jvm.Cond.code ({ cls := "WakingLayersModel", name := "readKind", desc := "()V" } : Jvm.MethodName) prog_14_method_24_code (1 : Nat) (Option.none : Option Jvm.ClassFile.FieldType) ∈ x_ws := x_in 1460 (by decide +kernel) rfl
theorem xw_1461 : Jvm.Cond.constantLong "WakingLayersModel" (246 : Nat) (504363246962 : Int64) ∈ x_ws := x_in 1461 (by decide +kernel) rfl
theorem xw_1462 : Jvm.Cond.methodLink "WakingLayersModel" (248 : Nat) ({ cls := "WakingLayersModel", name := "numberTo", desc := "(I)I" } : Jvm.MethodName) ∈ x_ws := x_in 1462 (by decide +kernel) rfl
theorem xw_1464 : Jvm.Cond.instanceMethod ({ cls := "WakingLayersModel", name := "numberTo", desc := "(I)I" } : Jvm.MethodName) ∈ x_ws := x_in 1464 (by decide +kernel) rfl
theorem xw_1465 : Jvm.Cond.code ({ cls := "WakingLayersModel", name := "numberTo", desc := "(I)I" } : Jvm.MethodName) prog_14_method_20_code (4 : Nat) (Option.some Jvm.ClassFile.FieldType.int) ∈ x_ws := x_in 1465 (by decide +kernel) rfl
theorem xw_1466 : Jvm.Cond.methodLink "WakingLayersModel" (303 : Nat) ({ cls := "WakingLayersModel", name := "readThing", desc := "()V" } : Jvm.MethodName) ∈ x_ws := x_in 1466 (by decide +kernel) rfl
theorem xw_1468 : Jvm.Cond.instanceMethod ({ cls := "WakingLayersModel", name := "readThing", desc := "()V" } : Jvm.MethodName) ∈ x_ws := x_in 1468 (by decide +kernel) rfl
theorem xw_1469 : Jvm.Cond.code ({ cls := "WakingLayersModel", name := "readThing", desc := "()V" } : Jvm.MethodName) prog_14_method_25_code (1 : Nat) (Option.none : Option Jvm.ClassFile.FieldType) ∈ x_ws := x_in 1469 (by decide +kernel) rfl
theorem xw_1470 : Jvm.Cond.methodLink "WakingLayersModel" (306 : Nat) ({ cls := "WakingLayersModel", name := "readLayer", desc := "()V" } : Jvm.MethodName) ∈ x_ws := x_in 1470 (by decide +kernel) rfl
theorem xw_1472 : Jvm.Cond.instanceMethod ({ cls := "WakingLayersModel", name := "readLayer", desc := "()V" } : Jvm.MethodName) ∈ x_ws := x_in 1472 (by decide +kernel) rfl
theorem xw_1473 : Jvm.Cond.code ({ cls := "WakingLayersModel", name := "readLayer", desc := "()V" } : Jvm.MethodName) prog_14_method_26_code (4 : Nat) (Option.none : Option Jvm.ClassFile.FieldType) ∈ x_ws := x_in 1473 (by decide +kernel) rfl
theorem xw_1474 : Jvm.Cond.methodLink "WakingLayersModel" (257 : Nat) ({ cls := "WakingLayersModel", name := "sortOfWord", desc := "()I" } : Jvm.MethodName) ∈ x_ws := x_in 1474 (by decide +kernel) rfl
theorem xw_1476 : Jvm.Cond.instanceMethod ({ cls := "WakingLayersModel", name := "sortOfWord", desc := "()I" } : Jvm.MethodName) ∈ x_ws := x_in 1476 (by decide +kernel) rfl
theorem xw_1477 : Jvm.Cond.code ({ cls := "WakingLayersModel", name := "sortOfWord", desc := "()I" } : Jvm.MethodName) prog_14_method_21_code (3 : Nat) (Option.some Jvm.ClassFile.FieldType.int) ∈ x_ws := x_in 1477 (by decide +kernel) rfl
theorem xw_1478 : Jvm.Cond.constantLong "WakingLayersModel" (213 : Nat) (1936744814 : Int64) ∈ x_ws := x_in 1478 (by decide +kernel) rfl
theorem xw_1479 : Jvm.Cond.constantLong "WakingLayersModel" (217 : Nat) (6386539 : Int64) ∈ x_ws := x_in 1479 (by decide +kernel) rfl
theorem xw_1480 : Jvm.Cond.constantLong "WakingLayersModel" (219 : Nat) (1702258034 : Int64) ∈ x_ws := x_in 1480 (by decide +kernel) rfl
theorem xw_1481 : Jvm.Cond.methodLink "WakingLayersModel" (261 : Nat) ({ cls := "WakingLayersModel", name := "is", desc := "(I)Z" } : Jvm.MethodName) ∈ x_ws := x_in 1481 (by decide +kernel) rfl
theorem xw_1483 : Jvm.Cond.instanceMethod ({ cls := "WakingLayersModel", name := "is", desc := "(I)Z" } : Jvm.MethodName) ∈ x_ws := x_in 1483 (by decide +kernel) rfl
theorem xw_1484 : Jvm.Cond.code ({ cls := "WakingLayersModel", name := "is", desc := "(I)Z" } : Jvm.MethodName) prog_14_method_18_code (2 : Nat) (Option.some Jvm.ClassFile.FieldType.boolean) ∈ x_ws := x_in 1484 (by decide +kernel) rfl
theorem xw_1485 : Jvm.Cond.constantLong "WakingLayersModel" (264 : Nat) (1852138852 : Int64) ∈ x_ws := x_in 1485 (by decide +kernel) rfl
theorem xw_1486 : Jvm.Cond.constantLong "WakingLayersModel" (266 : Nat) (6447474 : Int64) ∈ x_ws := x_in 1486 (by decide +kernel) rfl
theorem xw_1487 : Jvm.Cond.methodLink "WakingLayersModel" (309 : Nat) ({ cls := "WakingLayersModel", name := "readBody", desc := "()V" } : Jvm.MethodName) ∈ x_ws := x_in 1487 (by decide +kernel) rfl
theorem xw_1489 : Jvm.Cond.instanceMethod ({ cls := "WakingLayersModel", name := "readBody", desc := "()V" } : Jvm.MethodName) ∈ x_ws := x_in 1489 (by decide +kernel) rfl
theorem xw_1490 : Jvm.Cond.code ({ cls := "WakingLayersModel", name := "readBody", desc := "()V" } : Jvm.MethodName) prog_14_method_28_code (2 : Nat) (Option.none : Option Jvm.ClassFile.FieldType) ∈ x_ws := x_in 1490 (by decide +kernel) rfl
theorem xw_1491 : Jvm.Cond.constantLong "WakingLayersModel" (274 : Nat) (482854660462 : Int64) ∈ x_ws := x_in 1491 (by decide +kernel) rfl
theorem xw_1492 : Jvm.Cond.methodLink "WakingLayersModel" (276 : Nat) ({ cls := "WakingLayersModel", name := "wayOfWord", desc := "()I" } : Jvm.MethodName) ∈ x_ws := x_in 1492 (by decide +kernel) rfl
theorem xw_1494 : Jvm.Cond.instanceMethod ({ cls := "WakingLayersModel", name := "wayOfWord", desc := "()I" } : Jvm.MethodName) ∈ x_ws := x_in 1494 (by decide +kernel) rfl
theorem xw_1495 : Jvm.Cond.code ({ cls := "WakingLayersModel", name := "wayOfWord", desc := "()I" } : Jvm.MethodName) prog_14_method_22_code (3 : Nat) (Option.some Jvm.ClassFile.FieldType.int) ∈ x_ws := x_in 1495 (by decide +kernel) rfl
theorem xw_1496 : Jvm.Cond.constantLong "WakingLayersModel" (221 : Nat) (108187649798757 : Int64) ∈ x_ws := x_in 1496 (by decide +kernel) rfl
theorem xw_1497 : Jvm.Cond.constantLong "WakingLayersModel" (223 : Nat) (108187682958948 : Int64) ∈ x_ws := x_in 1497 (by decide +kernel) rfl
theorem xw_1498 : Jvm.Cond.constantLong "WakingLayersModel" (225 : Nat) (107144124132964 : Int64) ∈ x_ws := x_in 1498 (by decide +kernel) rfl
theorem xw_1499 : Jvm.Cond.constantLong "WakingLayersModel" (227 : Nat) (29676314707714404 : Int64) ∈ x_ws := x_in 1499 (by decide +kernel) rfl
theorem xw_1500 : Jvm.Cond.methodLink "WakingLayersModel" (268 : Nat) ({ cls := "WakingLayersModel", name := "actOfWord", desc := "(I)I" } : Jvm.MethodName) ∈ x_ws := x_in 1500 (by decide +kernel) rfl
theorem xw_1502 : Jvm.Cond.instanceMethod ({ cls := "WakingLayersModel", name := "actOfWord", desc := "(I)I" } : Jvm.MethodName) ∈ x_ws := x_in 1502 (by decide +kernel) rfl
theorem xw_1503 : Jvm.Cond.code ({ cls := "WakingLayersModel", name := "actOfWord", desc := "(I)I" } : Jvm.MethodName) prog_14_method_23_code (5 : Nat) (Option.some Jvm.ClassFile.FieldType.int) ∈ x_ws := x_in 1503 (by decide +kernel) rfl
theorem xw_1504 : Jvm.Cond.constantLong "WakingLayersModel" (229 : Nat) (6382692 : Int64) ∈ x_ws := x_in 1504 (by decide +kernel) rfl
theorem xw_1505 : Jvm.Cond.constantLong "WakingLayersModel" (231 : Nat) (7173484 : Int64) ∈ x_ws := x_in 1505 (by decide +kernel) rfl
theorem xw_1506 : Jvm.Cond.constantLong "WakingLayersModel" (233 : Nat) (7305070 : Int64) ∈ x_ws := x_in 1506 (by decide +kernel) rfl
theorem xw_1507 : Jvm.Cond.constantLong "WakingLayersModel" (235 : Nat) (31651020126119268 : Int64) ∈ x_ws := x_in 1507 (by decide +kernel) rfl
theorem xw_1508 : Jvm.Cond.constantLong "WakingLayersModel" (237 : Nat) (1667329132 : Int64) ∈ x_ws := x_in 1508 (by decide +kernel) rfl
theorem xw_1509 : Jvm.Cond.constantLong "WakingLayersModel" (239 : Nat) (2002873189 : Int64) ∈ x_ws := x_in 1509 (by decide +kernel) rfl
theorem xw_1510 : Jvm.Cond.constantLong "WakingLayersModel" (241 : Nat) (1717660012 : Int64) ∈ x_ws := x_in 1510 (by decide +kernel) rfl
theorem xw_1511 : Jvm.Cond.methodLink "WakingLayersModel" (279 : Nat) ({ cls := "WakingLayersModel", name := "readAct", desc := "(I)V" } : Jvm.MethodName) ∈ x_ws := x_in 1511 (by decide +kernel) rfl
theorem xw_1513 : Jvm.Cond.instanceMethod ({ cls := "WakingLayersModel", name := "readAct", desc := "(I)V" } : Jvm.MethodName) ∈ x_ws := x_in 1513 (by decide +kernel) rfl
theorem xw_1514 : Jvm.Cond.code ({ cls := "WakingLayersModel", name := "readAct", desc := "(I)V" } : Jvm.MethodName) prog_14_method_27_code (6 : Nat) (Option.none : Option Jvm.ClassFile.FieldType) ∈ x_ws := x_in 1514 (by decide +kernel) rfl
theorem xw_1515 : Jvm.Cond.constant "WakingLayersModel" (315 : Nat) (-1000100 : Int32) ∈ x_ws := x_in 1515 (by decide +kernel) rfl
theorem xw_1519 : Jvm.Cond.code ({ cls := "WakingLayersModel", name := "fault", desc := "()I" } : Jvm.MethodName) prog_14_method_30_code (1 : Nat) (Option.some Jvm.ClassFile.FieldType.int) ∈ x_ws := x_in 1519 (by decide +kernel) rfl
theorem xw_1523 : Jvm.Cond.code ({ cls := "WakingLayersModel", name := "layer", desc := "(II)I" } : Jvm.MethodName) prog_14_method_39_code (3 : Nat) (Option.some Jvm.ClassFile.FieldType.int) ∈ x_ws := x_in 1523 (by decide +kernel) rfl
theorem xw_1524 : Jvm.Cond.methodLink "WakingLayersModel" (337 : Nat) ({ cls := "WakingLayersModel", name := "isLayer", desc := "(I)Z" } : Jvm.MethodName) ∈ x_ws := x_in 1524 (by decide +kernel) rfl
theorem xw_1526 : Jvm.Cond.instanceMethod ({ cls := "WakingLayersModel", name := "isLayer", desc := "(I)Z" } : Jvm.MethodName) ∈ x_ws := x_in 1526 (by decide +kernel) rfl
theorem xw_1527 : Jvm.Cond.code ({ cls := "WakingLayersModel", name := "isLayer", desc := "(I)Z" } : Jvm.MethodName) prog_14_method_31_code (2 : Nat) (Option.some Jvm.ClassFile.FieldType.boolean) ∈ x_ws := x_in 1527 (by decide +kernel) rfl
theorem xw_1528 : Jvm.Cond.constantLong "WakingLayersModel" (340 : Nat) (5 : Int64) ∈ x_ws := x_in 1528 (by decide +kernel) rfl
theorem xw_1529 : Jvm.Cond.methodLink "WakingLayersModel" (325 : Nat) ({ cls := "WakingLayersModel", name := "isAwake", desc := "(I)Z" } : Jvm.MethodName) ∈ x_ws := x_in 1529 (by decide +kernel) rfl
theorem xw_1531 : Jvm.Cond.instanceMethod ({ cls := "WakingLayersModel", name := "isAwake", desc := "(I)Z" } : Jvm.MethodName) ∈ x_ws := x_in 1531 (by decide +kernel) rfl
theorem xw_1532 : Jvm.Cond.code ({ cls := "WakingLayersModel", name := "isAwake", desc := "(I)Z" } : Jvm.MethodName) prog_14_method_34_code (2 : Nat) (Option.some Jvm.ClassFile.FieldType.boolean) ∈ x_ws := x_in 1532 (by decide +kernel) rfl
theorem xw_1533 : Jvm.Cond.methodLink "WakingLayersModel" (322 : Nat) ({ cls := "WakingLayersModel", name := "openOf", desc := "(I)I" } : Jvm.MethodName) ∈ x_ws := x_in 1533 (by decide +kernel) rfl
theorem xw_1535 : Jvm.Cond.instanceMethod ({ cls := "WakingLayersModel", name := "openOf", desc := "(I)I" } : Jvm.MethodName) ∈ x_ws := x_in 1535 (by decide +kernel) rfl
theorem xw_1536 : Jvm.Cond.code ({ cls := "WakingLayersModel", name := "openOf", desc := "(I)I" } : Jvm.MethodName) prog_14_method_33_code (4 : Nat) (Option.some Jvm.ClassFile.FieldType.int) ∈ x_ws := x_in 1536 (by decide +kernel) rfl
theorem xw_1540 : Jvm.Cond.code ({ cls := "WakingLayersModel", name := "fact", desc := "(II)I" } : Jvm.MethodName) prog_14_method_40_code (4 : Nat) (Option.some Jvm.ClassFile.FieldType.int) ∈ x_ws := x_in 1540 (by decide +kernel) rfl
theorem xw_1541 : Jvm.Cond.constantLong "WakingLayersModel" (342 : Nat) (3 : Int64) ∈ x_ws := x_in 1541 (by decide +kernel) rfl
theorem xw_1542 : Jvm.Cond.constantLong "WakingLayersModel" (344 : Nat) (9 : Int64) ∈ x_ws := x_in 1542 (by decide +kernel) rfl
theorem xw_1546 : Jvm.Cond.code ({ cls := "WakingLayersModel", name := "facts", desc := "(III)I" } : Jvm.MethodName) prog_14_method_41_code (5 : Nat) (Option.some Jvm.ClassFile.FieldType.int) ∈ x_ws := x_in 1546 (by decide +kernel) rfl
theorem xw_1547 : Jvm.Cond.constantLong "WakingLayersModel" (346 : Nat) (4 : Int64) ∈ x_ws := x_in 1547 (by decide +kernel) rfl
theorem xw_1551 : Jvm.Cond.code ({ cls := "WakingLayersModel", name := "point", desc := "()I" } : Jvm.MethodName) prog_14_method_42_code (2 : Nat) (Option.some Jvm.ClassFile.FieldType.int) ∈ x_ws := x_in 1551 (by decide +kernel) rfl
theorem xw_1552 : Jvm.Cond.methodLink "WakingLayersModel" (348 : Nat) ({ cls := "WakingLayersModel", name := "find", desc := "()V" } : Jvm.MethodName) ∈ x_ws := x_in 1552 (by decide +kernel) rfl
theorem xw_1554 : Jvm.Cond.instanceMethod ({ cls := "WakingLayersModel", name := "find", desc := "()V" } : Jvm.MethodName) ∈ x_ws := x_in 1554 (by decide +kernel) rfl
theorem xw_1555 : Jvm.Cond.code ({ cls := "WakingLayersModel", name := "find", desc := "()V" } : Jvm.MethodName) prog_14_method_38_code (3 : Nat) (Option.none : Option Jvm.ClassFile.FieldType) ∈ x_ws := x_in 1555 (by decide +kernel) rfl
theorem xw_1556 : Jvm.Cond.methodLink "WakingLayersModel" (331 : Nat) ({ cls := "WakingLayersModel", name := "holdsTest", desc := "(I)Z" } : Jvm.MethodName) ∈ x_ws := x_in 1556 (by decide +kernel) rfl
theorem xw_1558 : Jvm.Cond.instanceMethod ({ cls := "WakingLayersModel", name := "holdsTest", desc := "(I)Z" } : Jvm.MethodName) ∈ x_ws := x_in 1558 (by decide +kernel) rfl
theorem xw_1559 : Jvm.Cond.code ({ cls := "WakingLayersModel", name := "holdsTest", desc := "(I)Z" } : Jvm.MethodName) prog_14_method_37_code (3 : Nat) (Option.some Jvm.ClassFile.FieldType.boolean) ∈ x_ws := x_in 1559 (by decide +kernel) rfl
theorem xw_1560 : Jvm.Cond.methodLink "WakingLayersModel" (328 : Nat) ({ cls := "WakingLayersModel", name := "hasNeeds", desc := "(I)Z" } : Jvm.MethodName) ∈ x_ws := x_in 1560 (by decide +kernel) rfl
theorem xw_1562 : Jvm.Cond.instanceMethod ({ cls := "WakingLayersModel", name := "hasNeeds", desc := "(I)Z" } : Jvm.MethodName) ∈ x_ws := x_in 1562 (by decide +kernel) rfl
theorem xw_1563 : Jvm.Cond.code ({ cls := "WakingLayersModel", name := "hasNeeds", desc := "(I)Z" } : Jvm.MethodName) prog_14_method_35_code (4 : Nat) (Option.some Jvm.ClassFile.FieldType.boolean) ∈ x_ws := x_in 1563 (by decide +kernel) rfl
theorem xw_1564 : Jvm.Cond.methodLink "WakingLayersModel" (334 : Nat) ({ cls := "WakingLayersModel", name := "lose", desc := "()V" } : Jvm.MethodName) ∈ x_ws := x_in 1564 (by decide +kernel) rfl
theorem xw_1566 : Jvm.Cond.instanceMethod ({ cls := "WakingLayersModel", name := "lose", desc := "()V" } : Jvm.MethodName) ∈ x_ws := x_in 1566 (by decide +kernel) rfl
theorem xw_1567 : Jvm.Cond.code ({ cls := "WakingLayersModel", name := "lose", desc := "()V" } : Jvm.MethodName) prog_14_method_36_code (3 : Nat) (Option.none : Option Jvm.ClassFile.FieldType) ∈ x_ws := x_in 1567 (by decide +kernel) rfl
theorem xw_1571 : Jvm.Cond.code ({ cls := "WakingLayersModel", name := "wake", desc := "(II)I" } : Jvm.MethodName) prog_14_method_43_code (3 : Nat) (Option.some Jvm.ClassFile.FieldType.int) ∈ x_ws := x_in 1571 (by decide +kernel) rfl
theorem xw_1572 : Jvm.Cond.methodLink "WakingLayersModel" (351 : Nat) ({ cls := "WakingLayersModel", name := "isThing", desc := "(I)Z" } : Jvm.MethodName) ∈ x_ws := x_in 1572 (by decide +kernel) rfl
theorem xw_1574 : Jvm.Cond.instanceMethod ({ cls := "WakingLayersModel", name := "isThing", desc := "(I)Z" } : Jvm.MethodName) ∈ x_ws := x_in 1574 (by decide +kernel) rfl
theorem xw_1575 : Jvm.Cond.code ({ cls := "WakingLayersModel", name := "isThing", desc := "(I)Z" } : Jvm.MethodName) prog_14_method_32_code (2 : Nat) (Option.some Jvm.ClassFile.FieldType.boolean) ∈ x_ws := x_in 1575 (by decide +kernel) rfl
theorem xw_1579 : Jvm.Cond.code ({ cls := "WakingLayersModel", name := "sleep", desc := "(I)I" } : Jvm.MethodName) prog_14_method_45_code (3 : Nat) (Option.some Jvm.ClassFile.FieldType.int) ∈ x_ws := x_in 1579 (by decide +kernel) rfl
theorem xw_1580 : Jvm.Cond.methodLink "WakingLayersModel" (354 : Nat) ({ cls := "WakingLayersModel", name := "close", desc := "(I)V" } : Jvm.MethodName) ∈ x_ws := x_in 1580 (by decide +kernel) rfl
theorem xw_1582 : Jvm.Cond.instanceMethod ({ cls := "WakingLayersModel", name := "close", desc := "(I)V" } : Jvm.MethodName) ∈ x_ws := x_in 1582 (by decide +kernel) rfl
theorem xw_1583 : Jvm.Cond.code ({ cls := "WakingLayersModel", name := "close", desc := "(I)V" } : Jvm.MethodName) prog_14_method_44_code (3 : Nat) (Option.none : Option Jvm.ClassFile.FieldType) ∈ x_ws := x_in 1583 (by decide +kernel) rfl
theorem xw_1584 : Jvm.Cond.constant "WakingLayersModel" (357 : Nat) (-1000002 : Int32) ∈ x_ws := x_in 1584 (by decide +kernel) rfl
theorem xw_1588 : Jvm.Cond.code ({ cls := "WakingLayersModel", name := "row", desc := "(III)I" } : Jvm.MethodName) prog_14_method_51_code (4 : Nat) (Option.some Jvm.ClassFile.FieldType.int) ∈ x_ws := x_in 1588 (by decide +kernel) rfl
theorem xw_1589 : Jvm.Cond.methodLink "WakingLayersModel" (374 : Nat) ({ cls := "WakingLayersModel", name := "layRow", desc := "(III)V" } : Jvm.MethodName) ∈ x_ws := x_in 1589 (by decide +kernel) rfl
theorem xw_1591 : Jvm.Cond.instanceMethod ({ cls := "WakingLayersModel", name := "layRow", desc := "(III)V" } : Jvm.MethodName) ∈ x_ws := x_in 1591 (by decide +kernel) rfl
theorem xw_1592 : Jvm.Cond.code ({ cls := "WakingLayersModel", name := "layRow", desc := "(III)V" } : Jvm.MethodName) prog_14_method_50_code (10 : Nat) (Option.none : Option Jvm.ClassFile.FieldType) ∈ x_ws := x_in 1592 (by decide +kernel) rfl
theorem xw_1593 : Jvm.Cond.methodLink "WakingLayersModel" (362 : Nat) ({ cls := "WakingLayersModel", name := "isAwakeFor", desc := "(II)Z" } : Jvm.MethodName) ∈ x_ws := x_in 1593 (by decide +kernel) rfl
theorem xw_1595 : Jvm.Cond.instanceMethod ({ cls := "WakingLayersModel", name := "isAwakeFor", desc := "(II)Z" } : Jvm.MethodName) ∈ x_ws := x_in 1595 (by decide +kernel) rfl
theorem xw_1596 : Jvm.Cond.code ({ cls := "WakingLayersModel", name := "isAwakeFor", desc := "(II)Z" } : Jvm.MethodName) prog_14_method_47_code (3 : Nat) (Option.some Jvm.ClassFile.FieldType.boolean) ∈ x_ws := x_in 1596 (by decide +kernel) rfl
theorem xw_1597 : Jvm.Cond.methodLink "WakingLayersModel" (358 : Nat) ({ cls := "WakingLayersModel", name := "latestOf", desc := "(II)I" } : Jvm.MethodName) ∈ x_ws := x_in 1597 (by decide +kernel) rfl
theorem xw_1599 : Jvm.Cond.instanceMethod ({ cls := "WakingLayersModel", name := "latestOf", desc := "(II)I" } : Jvm.MethodName) ∈ x_ws := x_in 1599 (by decide +kernel) rfl
theorem xw_1600 : Jvm.Cond.code ({ cls := "WakingLayersModel", name := "latestOf", desc := "(II)I" } : Jvm.MethodName) prog_14_method_46_code (5 : Nat) (Option.some Jvm.ClassFile.FieldType.int) ∈ x_ws := x_in 1600 (by decide +kernel) rfl
theorem xw_1601 : Jvm.Cond.methodLink "WakingLayersModel" (366 : Nat) ({ cls := "WakingLayersModel", name := "isAhead", desc := "(III)Z" } : Jvm.MethodName) ∈ x_ws := x_in 1601 (by decide +kernel) rfl
theorem xw_1603 : Jvm.Cond.instanceMethod ({ cls := "WakingLayersModel", name := "isAhead", desc := "(III)Z" } : Jvm.MethodName) ∈ x_ws := x_in 1603 (by decide +kernel) rfl
theorem xw_1604 : Jvm.Cond.code ({ cls := "WakingLayersModel", name := "isAhead", desc := "(III)Z" } : Jvm.MethodName) prog_14_method_48_code (4 : Nat) (Option.some Jvm.ClassFile.FieldType.boolean) ∈ x_ws := x_in 1604 (by decide +kernel) rfl
theorem xw_1605 : Jvm.Cond.methodLink "WakingLayersModel" (370 : Nat) ({ cls := "WakingLayersModel", name := "lay", desc := "(IIII)Z" } : Jvm.MethodName) ∈ x_ws := x_in 1605 (by decide +kernel) rfl
theorem xw_1607 : Jvm.Cond.instanceMethod ({ cls := "WakingLayersModel", name := "lay", desc := "(IIII)Z" } : Jvm.MethodName) ∈ x_ws := x_in 1607 (by decide +kernel) rfl
theorem xw_1608 : Jvm.Cond.code ({ cls := "WakingLayersModel", name := "lay", desc := "(IIII)Z" } : Jvm.MethodName) prog_14_method_49_code (7 : Nat) (Option.some Jvm.ClassFile.FieldType.boolean) ∈ x_ws := x_in 1608 (by decide +kernel) rfl
theorem xw_1612 : Jvm.Cond.code ({ cls := "WakingLayersModel", name := "call", desc := "(III)I" } : Jvm.MethodName) prog_14_method_60_code (6 : Nat) (Option.some Jvm.ClassFile.FieldType.int) ∈ x_ws := x_in 1612 (by decide +kernel) rfl
theorem xw_1613 : Jvm.Cond.methodLink "WakingLayersModel" (426 : Nat) ({ cls := "WakingLayersModel", name := "isNumber", desc := "(I)Z" } : Jvm.MethodName) ∈ x_ws := x_in 1613 (by decide +kernel) rfl
theorem xw_1615 : Jvm.Cond.instanceMethod ({ cls := "WakingLayersModel", name := "isNumber", desc := "(I)Z" } : Jvm.MethodName) ∈ x_ws := x_in 1615 (by decide +kernel) rfl
theorem xw_1616 : Jvm.Cond.code ({ cls := "WakingLayersModel", name := "isNumber", desc := "(I)Z" } : Jvm.MethodName) prog_14_method_59_code (2 : Nat) (Option.some Jvm.ClassFile.FieldType.boolean) ∈ x_ws := x_in 1616 (by decide +kernel) rfl
theorem xw_1617 : Jvm.Cond.constantLong "WakingLayersModel" (424 : Nat) (1000002 : Int64) ∈ x_ws := x_in 1617 (by decide +kernel) rfl
theorem xw_1618 : Jvm.Cond.methodLink "WakingLayersModel" (429 : Nat) ({ cls := "WakingLayersModel", name := "outermost", desc := "(III)I" } : Jvm.MethodName) ∈ x_ws := x_in 1618 (by decide +kernel) rfl
theorem xw_1620 : Jvm.Cond.instanceMethod ({ cls := "WakingLayersModel", name := "outermost", desc := "(III)I" } : Jvm.MethodName) ∈ x_ws := x_in 1620 (by decide +kernel) rfl
theorem xw_1621 : Jvm.Cond.code ({ cls := "WakingLayersModel", name := "outermost", desc := "(III)I" } : Jvm.MethodName) prog_14_method_58_code (5 : Nat) (Option.some Jvm.ClassFile.FieldType.int) ∈ x_ws := x_in 1621 (by decide +kernel) rfl
theorem xw_1622 : Jvm.Cond.methodLink "WakingLayersModel" (413 : Nat) ({ cls := "WakingLayersModel", name := "comeBack", desc := "()Z" } : Jvm.MethodName) ∈ x_ws := x_in 1622 (by decide +kernel) rfl
theorem xw_1624 : Jvm.Cond.instanceMethod ({ cls := "WakingLayersModel", name := "comeBack", desc := "()Z" } : Jvm.MethodName) ∈ x_ws := x_in 1624 (by decide +kernel) rfl
theorem xw_1625 : Jvm.Cond.code ({ cls := "WakingLayersModel", name := "comeBack", desc := "()Z" } : Jvm.MethodName) prog_14_method_56_code (4 : Nat) (Option.some Jvm.ClassFile.FieldType.boolean) ∈ x_ws := x_in 1625 (by decide +kernel) rfl
theorem xw_1626 : Jvm.Cond.methodLink "WakingLayersModel" (403 : Nat) ({ cls := "WakingLayersModel", name := "topBody", desc := "()I" } : Jvm.MethodName) ∈ x_ws := x_in 1626 (by decide +kernel) rfl
theorem xw_1628 : Jvm.Cond.instanceMethod ({ cls := "WakingLayersModel", name := "topBody", desc := "()I" } : Jvm.MethodName) ∈ x_ws := x_in 1628 (by decide +kernel) rfl
theorem xw_1629 : Jvm.Cond.code ({ cls := "WakingLayersModel", name := "topBody", desc := "()I" } : Jvm.MethodName) prog_14_method_52_code (1 : Nat) (Option.some Jvm.ClassFile.FieldType.int) ∈ x_ws := x_in 1629 (by decide +kernel) rfl
theorem xw_1630 : Jvm.Cond.methodLink "WakingLayersModel" (409 : Nat) ({ cls := "WakingLayersModel", name := "over", desc := "(Z)V" } : Jvm.MethodName) ∈ x_ws := x_in 1630 (by decide +kernel) rfl
theorem xw_1632 : Jvm.Cond.instanceMethod ({ cls := "WakingLayersModel", name := "over", desc := "(Z)V" } : Jvm.MethodName) ∈ x_ws := x_in 1632 (by decide +kernel) rfl
theorem xw_1633 : Jvm.Cond.code ({ cls := "WakingLayersModel", name := "over", desc := "(Z)V" } : Jvm.MethodName) prog_14_method_53_code (3 : Nat) (Option.none : Option Jvm.ClassFile.FieldType) ∈ x_ws := x_in 1633 (by decide +kernel) rfl
theorem xw_1634 : Jvm.Cond.methodLink "WakingLayersModel" (417 : Nat) ({ cls := "WakingLayersModel", name := "begin", desc := "()Z" } : Jvm.MethodName) ∈ x_ws := x_in 1634 (by decide +kernel) rfl
theorem xw_1636 : Jvm.Cond.instanceMethod ({ cls := "WakingLayersModel", name := "begin", desc := "()Z" } : Jvm.MethodName) ∈ x_ws := x_in 1636 (by decide +kernel) rfl
theorem xw_1637 : Jvm.Cond.code ({ cls := "WakingLayersModel", name := "begin", desc := "()Z" } : Jvm.MethodName) prog_14_method_55_code (1 : Nat) (Option.some Jvm.ClassFile.FieldType.boolean) ∈ x_ws := x_in 1637 (by decide +kernel) rfl
theorem xw_1638 : Jvm.Cond.methodLink "WakingLayersModel" (406 : Nat) ({ cls := "WakingLayersModel", name := "goNext", desc := "()V" } : Jvm.MethodName) ∈ x_ws := x_in 1638 (by decide +kernel) rfl
theorem xw_1640 : Jvm.Cond.instanceMethod ({ cls := "WakingLayersModel", name := "goNext", desc := "()V" } : Jvm.MethodName) ∈ x_ws := x_in 1640 (by decide +kernel) rfl
theorem xw_1641 : Jvm.Cond.code ({ cls := "WakingLayersModel", name := "goNext", desc := "()V" } : Jvm.MethodName) prog_14_method_54_code (2 : Nat) (Option.none : Option Jvm.ClassFile.FieldType) ∈ x_ws := x_in 1641 (by decide +kernel) rfl
theorem xw_1642 : Jvm.Cond.methodLink "WakingLayersModel" (420 : Nat) ({ cls := "WakingLayersModel", name := "doActs", desc := "()V" } : Jvm.MethodName) ∈ x_ws := x_in 1642 (by decide +kernel) rfl
theorem xw_1644 : Jvm.Cond.instanceMethod ({ cls := "WakingLayersModel", name := "doActs", desc := "()V" } : Jvm.MethodName) ∈ x_ws := x_in 1644 (by decide +kernel) rfl
theorem xw_1645 : Jvm.Cond.code ({ cls := "WakingLayersModel", name := "doActs", desc := "()V" } : Jvm.MethodName) prog_14_method_57_code (6 : Nat) (Option.none : Option Jvm.ClassFile.FieldType) ∈ x_ws := x_in 1645 (by decide +kernel) rfl
theorem xw_1646 : Jvm.Cond.constant "WakingLayersModel" (412 : Nat) (1000003 : Int32) ∈ x_ws := x_in 1646 (by decide +kernel) rfl
theorem xw_1647 : Jvm.Cond.constant "WakingLayersModel" (423 : Nat) (-1000004 : Int32) ∈ x_ws := x_in 1647 (by decide +kernel) rfl
theorem xw_1651 : Jvm.Cond.code ({ cls := "WakingLayersModel", name := "ran", desc := "(I)I" } : Jvm.MethodName) prog_14_method_61_code (2 : Nat) (Option.some Jvm.ClassFile.FieldType.int) ∈ x_ws := x_in 1651 (by decide +kernel) rfl
theorem xw_1652 : Jvm.Cond.constantLong "WakingLayersModel" (436 : Nat) (39 : Int64) ∈ x_ws := x_in 1652 (by decide +kernel) rfl
theorem xw_1656 : Jvm.Cond.code ({ cls := "WakingLayersModel", name := "together", desc := "(II)I" } : Jvm.MethodName) prog_14_method_66_code (5 : Nat) (Option.some Jvm.ClassFile.FieldType.int) ∈ x_ws := x_in 1656 (by decide +kernel) rfl
theorem xw_1657 : Jvm.Cond.methodLink "WakingLayersModel" (441 : Nat) ({ cls := "WakingLayersModel", name := "keep", desc := "()V" } : Jvm.MethodName) ∈ x_ws := x_in 1657 (by decide +kernel) rfl
theorem xw_1659 : Jvm.Cond.instanceMethod ({ cls := "WakingLayersModel", name := "keep", desc := "()V" } : Jvm.MethodName) ∈ x_ws := x_in 1659 (by decide +kernel) rfl
theorem xw_1660 : Jvm.Cond.code ({ cls := "WakingLayersModel", name := "keep", desc := "()V" } : Jvm.MethodName) prog_14_method_62_code (2 : Nat) (Option.none : Option Jvm.ClassFile.FieldType) ∈ x_ws := x_in 1660 (by decide +kernel) rfl
theorem xw_1661 : Jvm.Cond.methodLink "WakingLayersModel" (444 : Nat) ({ cls := "WakingLayersModel", name := "worlds", desc := "(I)I" } : Jvm.MethodName) ∈ x_ws := x_in 1661 (by decide +kernel) rfl
theorem xw_1662 : Jvm.Cond.static ({ cls := "WakingLayersModel", name := "worlds", desc := "(I)I" } : Jvm.MethodName) ∈ x_ws := x_in 1662 (by decide +kernel) rfl
theorem xw_1663 : Jvm.Cond.code ({ cls := "WakingLayersModel", name := "worlds", desc := "(I)I" } : Jvm.MethodName) prog_14_method_65_code (1 : Nat) (Option.some Jvm.ClassFile.FieldType.int) ∈ x_ws := x_in 1663 (by decide +kernel) rfl
theorem xw_1664 : Jvm.Cond.methodLink "WakingLayersModel" (447 : Nat) ({ cls := "WakingLayersModel", name := "makeWorld", desc := "(II)V" } : Jvm.MethodName) ∈ x_ws := x_in 1664 (by decide +kernel) rfl
theorem xw_1666 : Jvm.Cond.instanceMethod ({ cls := "WakingLayersModel", name := "makeWorld", desc := "(II)V" } : Jvm.MethodName) ∈ x_ws := x_in 1666 (by decide +kernel) rfl
theorem xw_1667 : Jvm.Cond.code ({ cls := "WakingLayersModel", name := "makeWorld", desc := "(II)V" } : Jvm.MethodName) prog_14_method_64_code (5 : Nat) (Option.none : Option Jvm.ClassFile.FieldType) ∈ x_ws := x_in 1667 (by decide +kernel) rfl
theorem xw_1668 : Jvm.Cond.methodLink "WakingLayersModel" (451 : Nat) ({ cls := "WakingLayersModel", name := "bringBack", desc := "()V" } : Jvm.MethodName) ∈ x_ws := x_in 1668 (by decide +kernel) rfl
theorem xw_1670 : Jvm.Cond.instanceMethod ({ cls := "WakingLayersModel", name := "bringBack", desc := "()V" } : Jvm.MethodName) ∈ x_ws := x_in 1670 (by decide +kernel) rfl
theorem xw_1671 : Jvm.Cond.code ({ cls := "WakingLayersModel", name := "bringBack", desc := "()V" } : Jvm.MethodName) prog_14_method_63_code (2 : Nat) (Option.none : Option Jvm.ClassFile.FieldType) ∈ x_ws := x_in 1671 (by decide +kernel) rfl
theorem xw_1675 : Jvm.Cond.code ({ cls := "WakingLayersModel", name := "same", desc := "(IIIII)I" } : Jvm.MethodName) prog_14_method_67_code (10 : Nat) (Option.some Jvm.ClassFile.FieldType.int) ∈ x_ws := x_in 1675 (by decide +kernel) rfl
theorem xw_1679 : Jvm.Cond.code ({ cls := "WakingLayersModel", name := "kind", desc := "(I)I" } : Jvm.MethodName) prog_14_method_70_code (2 : Nat) (Option.some Jvm.ClassFile.FieldType.int) ∈ x_ws := x_in 1679 (by decide +kernel) rfl
theorem xw_1680 : Jvm.Cond.methodLink "WakingLayersModel" (454 : Nat) ({ cls := "WakingLayersModel", name := "kindOf", desc := "(I)I" } : Jvm.MethodName) ∈ x_ws := x_in 1680 (by decide +kernel) rfl
theorem xw_1682 : Jvm.Cond.instanceMethod ({ cls := "WakingLayersModel", name := "kindOf", desc := "(I)I" } : Jvm.MethodName) ∈ x_ws := x_in 1682 (by decide +kernel) rfl
theorem xw_1683 : Jvm.Cond.code ({ cls := "WakingLayersModel", name := "kindOf", desc := "(I)I" } : Jvm.MethodName) prog_14_method_68_code (2 : Nat) (Option.some Jvm.ClassFile.FieldType.int) ∈ x_ws := x_in 1683 (by decide +kernel) rfl
theorem xw_1687 : Jvm.Cond.code ({ cls := "WakingLayersModel", name := "as", desc := "(II)I" } : Jvm.MethodName) prog_14_method_71_code (3 : Nat) (Option.some Jvm.ClassFile.FieldType.int) ∈ x_ws := x_in 1687 (by decide +kernel) rfl
theorem xw_1688 : Jvm.Cond.methodLink "WakingLayersModel" (457 : Nat) ({ cls := "WakingLayersModel", name := "isOf", desc := "(II)Z" } : Jvm.MethodName) ∈ x_ws := x_in 1688 (by decide +kernel) rfl
theorem xw_1689 : Jvm.Cond.static ({ cls := "WakingLayersModel", name := "isOf", desc := "(II)Z" } : Jvm.MethodName) ∈ x_ws := x_in 1689 (by decide +kernel) rfl
theorem xw_1690 : Jvm.Cond.code ({ cls := "WakingLayersModel", name := "isOf", desc := "(II)Z" } : Jvm.MethodName) prog_14_method_69_code (2 : Nat) (Option.some Jvm.ClassFile.FieldType.boolean) ∈ x_ws := x_in 1690 (by decide +kernel) rfl
theorem xw_1694 : Jvm.Cond.code ({ cls := "WakingLayersModel", name := "ask", desc := "(II)I" } : Jvm.MethodName) prog_14_method_77_code (4 : Nat) (Option.some Jvm.ClassFile.FieldType.int) ∈ x_ws := x_in 1694 (by decide +kernel) rfl
theorem xw_1695 : Jvm.Cond.methodLink "WakingLayersModel" (469 : Nat) ({ cls := "WakingLayersModel", name := "markOf", desc := "(II)I" } : Jvm.MethodName) ∈ x_ws := x_in 1695 (by decide +kernel) rfl
theorem xw_1697 : Jvm.Cond.instanceMethod ({ cls := "WakingLayersModel", name := "markOf", desc := "(II)I" } : Jvm.MethodName) ∈ x_ws := x_in 1697 (by decide +kernel) rfl
theorem xw_1698 : Jvm.Cond.code ({ cls := "WakingLayersModel", name := "markOf", desc := "(II)I" } : Jvm.MethodName) prog_14_method_73_code (5 : Nat) (Option.some Jvm.ClassFile.FieldType.int) ∈ x_ws := x_in 1698 (by decide +kernel) rfl
theorem xw_1699 : Jvm.Cond.methodLink "WakingLayersModel" (463 : Nat) ({ cls := "WakingLayersModel", name := "leaves", desc := "(I)V" } : Jvm.MethodName) ∈ x_ws := x_in 1699 (by decide +kernel) rfl
theorem xw_1701 : Jvm.Cond.instanceMethod ({ cls := "WakingLayersModel", name := "leaves", desc := "(I)V" } : Jvm.MethodName) ∈ x_ws := x_in 1701 (by decide +kernel) rfl
theorem xw_1702 : Jvm.Cond.code ({ cls := "WakingLayersModel", name := "leaves", desc := "(I)V" } : Jvm.MethodName) prog_14_method_72_code (2 : Nat) (Option.none : Option Jvm.ClassFile.FieldType) ∈ x_ws := x_in 1702 (by decide +kernel) rfl
theorem xw_1703 : Jvm.Cond.methodLink "WakingLayersModel" (466 : Nat) ({ cls := "WakingLayersModel", name := "sizeOf", desc := "(II)I" } : Jvm.MethodName) ∈ x_ws := x_in 1703 (by decide +kernel) rfl
theorem xw_1705 : Jvm.Cond.instanceMethod ({ cls := "WakingLayersModel", name := "sizeOf", desc := "(II)I" } : Jvm.MethodName) ∈ x_ws := x_in 1705 (by decide +kernel) rfl
theorem xw_1706 : Jvm.Cond.code ({ cls := "WakingLayersModel", name := "sizeOf", desc := "(II)I" } : Jvm.MethodName) prog_14_method_75_code (4 : Nat) (Option.some Jvm.ClassFile.FieldType.int) ∈ x_ws := x_in 1706 (by decide +kernel) rfl
theorem xw_1707 : Jvm.Cond.methodLink "WakingLayersModel" (475 : Nat) ({ cls := "WakingLayersModel", name := "askedSize", desc := "(II)I" } : Jvm.MethodName) ∈ x_ws := x_in 1707 (by decide +kernel) rfl
theorem xw_1709 : Jvm.Cond.instanceMethod ({ cls := "WakingLayersModel", name := "askedSize", desc := "(II)I" } : Jvm.MethodName) ∈ x_ws := x_in 1709 (by decide +kernel) rfl
theorem xw_1710 : Jvm.Cond.code ({ cls := "WakingLayersModel", name := "askedSize", desc := "(II)I" } : Jvm.MethodName) prog_14_method_76_code (3 : Nat) (Option.some Jvm.ClassFile.FieldType.int) ∈ x_ws := x_in 1710 (by decide +kernel) rfl
theorem xw_1711 : Jvm.Cond.methodLink "WakingLayersModel" (472 : Nat) ({ cls := "WakingLayersModel", name := "bits", desc := "(I)I" } : Jvm.MethodName) ∈ x_ws := x_in 1711 (by decide +kernel) rfl
theorem xw_1712 : Jvm.Cond.static ({ cls := "WakingLayersModel", name := "bits", desc := "(I)I" } : Jvm.MethodName) ∈ x_ws := x_in 1712 (by decide +kernel) rfl
theorem xw_1713 : Jvm.Cond.code ({ cls := "WakingLayersModel", name := "bits", desc := "(I)I" } : Jvm.MethodName) prog_14_method_74_code (3 : Nat) (Option.some Jvm.ClassFile.FieldType.int) ∈ x_ws := x_in 1713 (by decide +kernel) rfl
theorem xw_1717 : Jvm.Cond.code ({ cls := "WakingLayersModel", name := "trace", desc := "(I)I" } : Jvm.MethodName) prog_14_method_78_code (2 : Nat) (Option.some Jvm.ClassFile.FieldType.int) ∈ x_ws := x_in 1717 (by decide +kernel) rfl
theorem xw_1721 : Jvm.Cond.code ({ cls := "WakingLayersModel", name := "count", desc := "(I)I" } : Jvm.MethodName) prog_14_method_79_code (4 : Nat) (Option.some Jvm.ClassFile.FieldType.int) ∈ x_ws := x_in 1721 (by decide +kernel) rfl
theorem xw_1725 : Jvm.Cond.code ({ cls := "WakingLayersModel", name := "status", desc := "()I" } : Jvm.MethodName) prog_14_method_80_code (1 : Nat) (Option.some Jvm.ClassFile.FieldType.int) ∈ x_ws := x_in 1725 (by decide +kernel) rfl
theorem xw_1727 : Jvm.Cond.fieldLink "java/lang/String" (9 : Nat) "java/lang/String" "value" "[B" ∈ x_ws := x_in 1727 (by decide +kernel) rfl
theorem xw_1728 : Jvm.Cond.fieldLink "java/lang/String" (15 : Nat) "java/lang/String" "coder" "B" ∈ x_ws := x_in 1728 (by decide +kernel) rfl
end
section
theorem cin_0 : ∀ w ∈ u_ws RX0 TX0 4, w ∈ x_ws := x_ins _ [460, 462, 464, 466] (by decide +kernel) (by decide +kernel)
theorem cin_1 : ∀ w ∈ u_ws RX1 TX1 8, w ∈ x_ws := x_ins _ [244, 246, 248, 250, 252, 254, 256, 258] (by decide +kernel) (by decide +kernel)
theorem cin_2 : ∀ w ∈ u_ws RX2 TX2 6, w ∈ x_ws := x_ins _ [358, 360, 362, 364, 366, 368] (by decide +kernel) (by decide +kernel)
theorem cin_3 : ∀ w ∈ u_ws RX3 TX3 8, w ∈ x_ws := x_ins _ [204, 206, 208, 210, 212, 214, 216, 218] (by decide +kernel) (by decide +kernel)
theorem cin_4 : ∀ w ∈ u_ws RX4 TX4 13, w ∈ x_ws := x_ins _ [297, 299, 301, 303, 305, 307, 309, 311, 313, 315, 317, 319, 321] (by decide +kernel) (by decide +kernel)
theorem cin_5 : ∀ w ∈ u_ws RX5 TX5 5, w ∈ x_ws := x_ins _ [335, 337, 339, 341, 343] (by decide +kernel) (by decide +kernel)
theorem cin_6 : ∀ w ∈ u_ws RX6 TX6 5, w ∈ x_ws := x_ins _ [382, 384, 386, 388, 390] (by decide +kernel) (by decide +kernel)
theorem cin_7 : ∀ w ∈ u_ws RX7 TX7 9, w ∈ x_ws := x_ins _ [409, 411, 413, 415, 417, 419, 421, 423, 425] (by decide +kernel) (by decide +kernel)
theorem cin_8 : ∀ w ∈ u_ws RX8 TX8 4, w ∈ x_ws := x_ins _ [130, 132, 134, 136] (by decide +kernel) (by decide +kernel)
theorem cin_9 : ∀ w ∈ u_ws RX9 TX9 5, w ∈ x_ws := x_ins _ [439, 441, 443, 445, 447] (by decide +kernel) (by decide +kernel)
theorem cin_10 : ∀ w ∈ u_ws RX10 TX10 6, w ∈ x_ws := x_ins _ [153, 155, 157, 159, 161, 163] (by decide +kernel) (by decide +kernel)
theorem cin_11 : ∀ w ∈ u_ws RX11 TX11 11, w ∈ x_ws := x_ins _ [480, 482, 484, 486, 488, 490, 492, 494, 496, 498, 500] (by decide +kernel) (by decide +kernel)
theorem cin_12 : ∀ w ∈ u_ws RX12 TX12 72, w ∈ x_ws := x_ins _ [1237, 1239, 1241, 1243, 1245, 1247, 1249, 1251, 1253, 1255, 1257, 1259, 1261, 1263, 1265, 1267, 1269, 1271, 1273, 1275, 1277, 1279, 1281, 1283, 1285, 1287, 1289, 1291, 1293, 1295, 1297, 1299, 1301, 1303, 1305, 1307, 1309, 1311, 1313, 1315, 1317, 1319, 1321, 1323, 1325, 1327, 1329, 1331, 1333, 1335, 1337, 1339, 1341, 1343, 1345, 1347, 1349, 1351, 1353, 1355, 1357, 1359, 1361, 1363, 1365, 1367, 1369, 1371, 1373, 1375, 1377, 1379] (by decide +kernel) (by decide +kernel)
def m0_clearTrace : xM := (yX0_clearTrace, cX0_clearTrace, 1, none)
theorem ok0_clearTrace : x_ok m0_clearTrace := ⟨xw_1072, by decide +kernel, ⟨by decide +kernel, by decide +kernel⟩, xw_102, by decide⟩
def m0_isAsk : xM := (yX0_isAsk, cX0_isAsk, 1, (some .boolean))
theorem ok0_isAsk : x_ok m0_isAsk := ⟨xw_1068, by decide +kernel, ⟨by decide +kernel, by decide +kernel⟩, xw_102, by decide⟩
def m0_isKind : xM := (yX0_isKind, cX0_isKind, 1, (some .boolean))
theorem ok0_isKind : x_ok m0_isKind := ⟨xw_1056, by decide +kernel, ⟨by decide +kernel, by decide +kernel⟩, xw_102, by decide⟩
def m0_isOne : xM := (yX0_isOne, cX0_isOne, 4, (some .boolean))
theorem ok0_isOne : x_ok m0_isOne := ⟨xw_1059, by decide +kernel, ⟨by decide +kernel, by decide +kernel⟩, xw_102, by decide⟩
def m0_kindOf : xM := (yX0_kindOf, cX0_kindOf, 1, (some .int))
theorem ok0_kindOf : x_ok m0_kindOf := ⟨xw_1049, by decide +kernel, ⟨by decide +kernel, by decide +kernel⟩, xw_102, by decide⟩
def m0_leave : xM := (yX0_leave, cX0_leave, 2, none)
theorem ok0_leave : x_ok m0_leave := ⟨xw_1085, by decide +kernel, ⟨by decide +kernel, by decide +kernel⟩, xw_102, by decide⟩
def m0_lentMark : xM := (yX0_lentMark, cX0_lentMark, 2, (some .int))
theorem ok0_lentMark : x_ok m0_lentMark := ⟨xw_1110, by decide +kernel, ⟨by decide +kernel, by decide +kernel⟩, xw_102, by decide⟩
def m0_lentSize : xM := (yX0_lentSize, cX0_lentSize, 2, (some .int))
theorem ok0_lentSize : x_ok m0_lentSize := ⟨xw_1089, by decide +kernel, ⟨by decide +kernel, by decide +kernel⟩, xw_102, by decide⟩
def m0_markOf : xM := (yX0_markOf, cX0_markOf, 2, (some .int))
theorem ok0_markOf : x_ok m0_markOf := ⟨xw_1102, by decide +kernel, ⟨by decide +kernel, by decide +kernel⟩, xw_102, by decide⟩
def m0_markOfAsked : xM := (yX0_markOfAsked, cX0_markOfAsked, 2, (some .int))
theorem ok0_markOfAsked : x_ok m0_markOfAsked := ⟨xw_1106, by decide +kernel, ⟨by decide +kernel, by decide +kernel⟩, xw_102, by decide⟩
def m0_markOfEver : xM := (yX0_markOfEver, cX0_markOfEver, 2, (some .int))
theorem ok0_markOfEver : x_ok m0_markOfEver := ⟨xw_1119, by decide +kernel, ⟨by decide +kernel, by decide +kernel⟩, xw_102, by decide⟩
def m0_sizeOf : xM := (yX0_sizeOf, cX0_sizeOf, 2, (some .int))
theorem ok0_sizeOf : x_ok m0_sizeOf := ⟨xw_1076, by decide +kernel, ⟨by decide +kernel, by decide +kernel⟩, xw_102, by decide⟩
def m0_sizeOfAsked : xM := (yX0_sizeOfAsked, cX0_sizeOfAsked, 2, (some .int))
theorem ok0_sizeOfAsked : x_ok m0_sizeOfAsked := ⟨xw_1098, by decide +kernel, ⟨by decide +kernel, by decide +kernel⟩, xw_102, by decide⟩
def m0_sizeOfNeeding : xM := (yX0_sizeOfNeeding, cX0_sizeOfNeeding, 2, (some .int))
theorem ok0_sizeOfNeeding : x_ok m0_sizeOfNeeding := ⟨xw_1124, by decide +kernel, ⟨by decide +kernel, by decide +kernel⟩, xw_102, by decide⟩
def m0_sizeOfOwned : xM := (yX0_sizeOfOwned, cX0_sizeOfOwned, 2, (some .int))
theorem ok0_sizeOfOwned : x_ok m0_sizeOfOwned := ⟨xw_1094, by decide +kernel, ⟨by decide +kernel, by decide +kernel⟩, xw_102, by decide⟩
def m0_sizeOfSpanned : xM := (yX0_sizeOfSpanned, cX0_sizeOfSpanned, 2, (some .int))
theorem ok0_sizeOfSpanned : x_ok m0_sizeOfSpanned := ⟨xw_1081, by decide +kernel, ⟨by decide +kernel, by decide +kernel⟩, xw_102, by decide⟩
def m0_tracedAt : xM := (yX0_tracedAt, cX0_tracedAt, 2, (some .int))
theorem ok0_tracedAt : x_ok m0_tracedAt := ⟨xw_1139, by decide +kernel, ⟨by decide +kernel, by decide +kernel⟩, xw_102, by decide⟩
def m1_addAct : xM := (yX1_addAct, cX1_addAct, 4, none)
theorem ok1_addAct : x_ok m1_addAct := ⟨xw_790, by decide +kernel, ⟨by decide +kernel, by decide +kernel⟩, xw_96, by decide⟩
def m1_begin : xM := (yX1_begin, cX1_begin, 5, none)
theorem ok1_begin : x_ok m1_begin := ⟨xw_769, by decide +kernel, ⟨by decide +kernel, by decide +kernel⟩, xw_96, by decide⟩
def m1_isFor : xM := (yX1_isFor, cX1_isFor, 3, (some .boolean))
theorem ok1_isFor : x_ok m1_isFor := ⟨xw_914, by decide +kernel, ⟨by decide +kernel, by decide +kernel⟩, xw_96, by decide⟩
def m2_awakeSet : xM := (yX2_awakeSet, cX2_awakeSet, 1, (some .int))
theorem ok2_awakeSet : x_ok m2_awakeSet := ⟨xw_821, by decide +kernel, ⟨by decide +kernel, by decide +kernel⟩, xw_98, by decide⟩
def m2_awakeUnasked : xM := (yX2_awakeUnasked, cX2_awakeUnasked, 3, (some .int))
theorem ok2_awakeUnasked : x_ok m2_awakeUnasked := ⟨xw_825, by decide +kernel, ⟨by decide +kernel, by decide +kernel⟩, xw_98, by decide⟩
def m2_closeDownTo : xM := (yX2_closeDownTo, cX2_closeDownTo, 2, none)
theorem ok2_closeDownTo : x_ok m2_closeDownTo := ⟨xw_991, by decide +kernel, ⟨by decide +kernel, by decide +kernel⟩, xw_98, by decide⟩
def m2_closeLatest : xM := (yX2_closeLatest, cX2_closeLatest, 4, (some .boolean))
theorem ok2_closeLatest : x_ok m2_closeLatest := ⟨xw_894, by decide +kernel, ⟨by decide +kernel, by decide +kernel⟩, xw_98, by decide⟩
def m2_foundAtPoint : xM := (yX2_foundAtPoint, cX2_foundAtPoint, 7, (some .int))
theorem ok2_foundAtPoint : x_ok m2_foundAtPoint := ⟨xw_860, by decide +kernel, ⟨by decide +kernel, by decide +kernel⟩, xw_98, by decide⟩
def m2_foundSet : xM := (yX2_foundSet, cX2_foundSet, 1, (some .int))
theorem ok2_foundSet : x_ok m2_foundSet := ⟨xw_1036, by decide +kernel, ⟨by decide +kernel, by decide +kernel⟩, xw_98, by decide⟩
def m2_isAwake : xM := (yX2_isAwake, cX2_isAwake, 2, (some .boolean))
theorem ok2_isAwake : x_ok m2_isAwake := ⟨xw_817, by decide +kernel, ⟨by decide +kernel, by decide +kernel⟩, xw_98, by decide⟩
def m2_isFactValue : xM := (yX2_isFactValue, cX2_isFactValue, 1, (some .boolean))
theorem ok2_isFactValue : x_ok m2_isFactValue := ⟨xw_836, by decide +kernel, ⟨by decide +kernel, by decide +kernel⟩, xw_98, by decide⟩
def m2_isFound : xM := (yX2_isFound, cX2_isFound, 2, (some .boolean))
theorem ok2_isFound : x_ok m2_isFound := ⟨xw_928, by decide +kernel, ⟨by decide +kernel, by decide +kernel⟩, xw_98, by decide⟩
def m2_latestOpen : xM := (yX2_latestOpen, cX2_latestOpen, 5, (some .int))
theorem ok2_latestOpen : x_ok m2_latestOpen := ⟨xw_923, by decide +kernel, ⟨by decide +kernel, by decide +kernel⟩, xw_98, by decide⟩
def m2_openCount : xM := (yX2_openCount, cX2_openCount, 1, (some .int))
theorem ok2_openCount : x_ok m2_openCount := ⟨xw_886, by decide +kernel, ⟨by decide +kernel, by decide +kernel⟩, xw_98, by decide⟩
def m2_openOf : xM := (yX2_openOf, cX2_openOf, 4, (some .int))
theorem ok2_openOf : x_ok m2_openOf := ⟨xw_829, by decide +kernel, ⟨by decide +kernel, by decide +kernel⟩, xw_98, by decide⟩
def m2_openWaking : xM := (yX2_openWaking, cX2_openWaking, 3, (some .boolean))
theorem ok2_openWaking : x_ok m2_openWaking := ⟨xw_882, by decide +kernel, ⟨by decide +kernel, by decide +kernel⟩, xw_98, by decide⟩
def m2_setFound : xM := (yX2_setFound, cX2_setFound, 2, none)
theorem ok2_setFound : x_ok m2_setFound := ⟨xw_1040, by decide +kernel, ⟨by decide +kernel, by decide +kernel⟩, xw_98, by decide⟩
def m2_settled : xM := (yX2_settled, cX2_settled, 5, (some .int))
theorem ok2_settled : x_ok m2_settled := ⟨xw_868, by decide +kernel, ⟨by decide +kernel, by decide +kernel⟩, xw_98, by decide⟩
def m2_takePoint : xM := (yX2_takePoint, cX2_takePoint, 1, (some .int))
theorem ok2_takePoint : x_ok m2_takePoint := ⟨xw_856, by decide +kernel, ⟨by decide +kernel, by decide +kernel⟩, xw_98, by decide⟩
def m2_tell : xM := (yX2_tell, cX2_tell, 4, (some .int))
theorem ok2_tell : x_ok m2_tell := ⟨xw_840, by decide +kernel, ⟨by decide +kernel, by decide +kernel⟩, xw_98, by decide⟩
def m3_begin : xM := (yX3_begin, cX3_begin, 3, none)
theorem ok3_begin : x_ok m3_begin := ⟨xw_741, by decide +kernel, ⟨by decide +kernel, by decide +kernel⟩, xw_95, by decide⟩
def m3_beginTest : xM := (yX3_beginTest, cX3_beginTest, 4, none)
theorem ok3_beginTest : x_ok m3_beginTest := ⟨xw_749, by decide +kernel, ⟨by decide +kernel, by decide +kernel⟩, xw_95, by decide⟩
def m3_isWoken : xM := (yX3_isWoken, cX3_isWoken, 1, (some .boolean))
theorem ok3_isWoken : x_ok m3_isWoken := ⟨xw_786, by decide +kernel, ⟨by decide +kernel, by decide +kernel⟩, xw_95, by decide⟩
def m3_testHolds : xM := (yX3_testHolds, cX3_testHolds, 3, (some .boolean))
theorem ok3_testHolds : x_ok m3_testHolds := ⟨xw_864, by decide +kernel, ⟨by decide +kernel, by decide +kernel⟩, xw_95, by decide⟩
def m4_addKind : xM := (yX4_addKind, cX4_addKind, 2, none)
theorem ok4_addKind : x_ok m4_addKind := ⟨xw_720, by decide +kernel, ⟨by decide +kernel, by decide +kernel⟩, xw_94, by decide⟩
def m4_addThing : xM := (yX4_addThing, cX4_addThing, 3, none)
theorem ok4_addThing : x_ok m4_addThing := ⟨xw_728, by decide +kernel, ⟨by decide +kernel, by decide +kernel⟩, xw_94, by decide⟩
def m4_bodiesOf : xM := (yX4_bodiesOf, cX4_bodiesOf, 4, (some .int))
theorem ok4_bodiesOf : x_ok m4_bodiesOf := ⟨xw_1114, by decide +kernel, ⟨by decide +kernel, by decide +kernel⟩, xw_94, by decide⟩
def m4_isLayer : xM := (yX4_isLayer, cX4_isLayer, 2, (some .boolean))
theorem ok4_isLayer : x_ok m4_isLayer := ⟨xw_782, by decide +kernel, ⟨by decide +kernel, by decide +kernel⟩, xw_94, by decide⟩
def m4_isThing : xM := (yX4_isThing, cX4_isThing, 2, (some .boolean))
theorem ok4_isThing : x_ok m4_isThing := ⟨xw_877, by decide +kernel, ⟨by decide +kernel, by decide +kernel⟩, xw_94, by decide⟩
def m4_keepCounts : xM := (yX4_keepCounts, cX4_keepCounts, 1, none)
theorem ok4_keepCounts : x_ok m4_keepCounts := ⟨xw_590, by decide +kernel, ⟨by decide +kernel, by decide +kernel⟩, xw_94, by decide⟩
def m4_restoreCounts : xM := (yX4_restoreCounts, cX4_restoreCounts, 1, none)
theorem ok4_restoreCounts : x_ok m4_restoreCounts := ⟨xw_794, by decide +kernel, ⟨by decide +kernel, by decide +kernel⟩, xw_94, by decide⟩
def m5_latestFault : xM := (yX5_latestFault, cX5_latestFault, 1, (some .int))
theorem ok5_latestFault : x_ok m5_latestFault := ⟨xw_808, by decide +kernel, ⟨by decide +kernel, by decide +kernel⟩, xw_97, by decide⟩
def m5_readAct : xM := (yX5_readAct, cX5_readAct, 5, none)
theorem ok5_readAct : x_ok m5_readAct := ⟨xw_773, by decide +kernel, ⟨by decide +kernel, by decide +kernel⟩, xw_97, by decide⟩
def m5_readBody : xM := (yX5_readBody, cX5_readBody, 7, none)
theorem ok5_readBody : x_ok m5_readBody := ⟨xw_759, by decide +kernel, ⟨by decide +kernel, by decide +kernel⟩, xw_97, by decide⟩
def m5_readKind : xM := (yX5_readKind, cX5_readKind, 2, none)
theorem ok5_readKind : x_ok m5_readKind := ⟨xw_678, by decide +kernel, ⟨by decide +kernel, by decide +kernel⟩, xw_97, by decide⟩
def m5_readLayer : xM := (yX5_readLayer, cX5_readLayer, 4, none)
theorem ok5_readLayer : x_ok m5_readLayer := ⟨xw_732, by decide +kernel, ⟨by decide +kernel, by decide +kernel⟩, xw_97, by decide⟩
def m5_readNeedsAndBars : xM := (yX5_readNeedsAndBars, cX5_readNeedsAndBars, 3, none)
theorem ok5_readNeedsAndBars : x_ok m5_readNeedsAndBars := ⟨xw_753, by decide +kernel, ⟨by decide +kernel, by decide +kernel⟩, xw_97, by decide⟩
def m5_readTape : xM := (yX5_readTape, cX5_readTape, 2, (some .int))
theorem ok5_readTape : x_ok m5_readTape := ⟨xw_586, by decide +kernel, ⟨by decide +kernel, by decide +kernel⟩, xw_97, by decide⟩
def m5_readTelling : xM := (yX5_readTelling, cX5_readTelling, 1, none)
theorem ok5_readTelling : x_ok m5_readTelling := ⟨xw_617, by decide +kernel, ⟨by decide +kernel, by decide +kernel⟩, xw_97, by decide⟩
def m5_readTest : xM := (yX5_readTest, cX5_readTest, 4, none)
theorem ok5_readTest : x_ok m5_readTest := ⟨xw_745, by decide +kernel, ⟨by decide +kernel, by decide +kernel⟩, xw_97, by decide⟩
def m5_readThing : xM := (yX5_readThing, cX5_readThing, 3, none)
theorem ok5_readThing : x_ok m5_readThing := ⟨xw_724, by decide +kernel, ⟨by decide +kernel, by decide +kernel⟩, xw_97, by decide⟩
def m5_refuse : xM := (yX5_refuse, cX5_refuse, 2, none)
theorem ok5_refuse : x_ok m5_refuse := ⟨xw_686, by decide +kernel, ⟨by decide +kernel, by decide +kernel⟩, xw_97, by decide⟩
def m5_refuseUnwoken : xM := (yX5_refuseUnwoken, cX5_refuseUnwoken, 1, none)
theorem ok5_refuseUnwoken : x_ok m5_refuseUnwoken := ⟨xw_778, by decide +kernel, ⟨by decide +kernel, by decide +kernel⟩, xw_97, by decide⟩
def m5_takeFirstWord : xM := (yX5_takeFirstWord, cX5_takeFirstWord, 3, none)
theorem ok5_takeFirstWord : x_ok m5_takeFirstWord := ⟨xw_682, by decide +kernel, ⟨by decide +kernel, by decide +kernel⟩, xw_97, by decide⟩
def m5_takeNumber : xM := (yX5_takeNumber, cX5_takeNumber, 3, (some .int))
theorem ok5_takeNumber : x_ok m5_takeNumber := ⟨xw_700, by decide +kernel, ⟨by decide +kernel, by decide +kernel⟩, xw_97, by decide⟩
def m5_takeOwner : xM := (yX5_takeOwner, cX5_takeOwner, 1, (some .int))
theorem ok5_takeOwner : x_ok m5_takeOwner := ⟨xw_763, by decide +kernel, ⟨by decide +kernel, by decide +kernel⟩, xw_97, by decide⟩
def m5_takeSign : xM := (yX5_takeSign, cX5_takeSign, 2, none)
theorem ok5_takeSign : x_ok m5_takeSign := ⟨xw_712, by decide +kernel, ⟨by decide +kernel, by decide +kernel⟩, xw_97, by decide⟩
def m5_takeWord : xM := (yX5_takeWord, cX5_takeWord, 3, (some .int))
theorem ok5_takeWord : x_ok m5_takeWord := ⟨xw_737, by decide +kernel, ⟨by decide +kernel, by decide +kernel⟩, xw_97, by decide⟩
def m6_addBodies : xM := (yX6_addBodies, cX6_addBodies, 6, (some .int))
theorem ok6_addBodies : x_ok m6_addBodies := ⟨xw_936, by decide +kernel, ⟨by decide +kernel, by decide +kernel⟩, xw_99, by decide⟩
def m6_fill : xM := (yX6_fill, cX6_fill, 7, (some .int))
theorem ok6_fill : x_ok m6_fill := ⟨xw_906, by decide +kernel, ⟨by decide +kernel, by decide +kernel⟩, xw_99, by decide⟩
def m6_gatherFitting : xM := (yX6_gatherFitting, cX6_gatherFitting, 6, none)
theorem ok6_gatherFitting : x_ok m6_gatherFitting := ⟨xw_910, by decide +kernel, ⟨by decide +kernel, by decide +kernel⟩, xw_99, by decide⟩
def m6_isEnded : xM := (yX6_isEnded, cX6_isEnded, 3, (some .boolean))
theorem ok6_isEnded : x_ok m6_isEnded := ⟨xw_940, by decide +kernel, ⟨by decide +kernel, by decide +kernel⟩, xw_99, by decide⟩
def m6_takeHeaviest : xM := (yX6_takeHeaviest, cX6_takeHeaviest, 4, (some .int))
theorem ok6_takeHeaviest : x_ok m6_takeHeaviest := ⟨xw_932, by decide +kernel, ⟨by decide +kernel, by decide +kernel⟩, xw_99, by decide⟩
def m6_weight : xM := (yX6_weight, cX6_weight, 5, (some .int))
theorem ok6_weight : x_ok m6_weight := ⟨xw_918, by decide +kernel, ⟨by decide +kernel, by decide +kernel⟩, xw_99, by decide⟩
def m7_begunAt : xM := (yX7_begunAt, cX7_begunAt, 2, (some .int))
theorem ok7_begunAt : x_ok m7_begunAt := ⟨xw_1003, by decide +kernel, ⟨by decide +kernel, by decide +kernel⟩, xw_100, by decide⟩
def m7_begunCount : xM := (yX7_begunCount, cX7_begunCount, 1, (some .int))
theorem ok7_begunCount : x_ok m7_begunCount := ⟨xw_999, by decide +kernel, ⟨by decide +kernel, by decide +kernel⟩, xw_100, by decide⟩
def m7_callAt : xM := (yX7_callAt, cX7_callAt, 5, (some .int))
theorem ok7_callAt : x_ok m7_callAt := ⟨xw_957, by decide +kernel, ⟨by decide +kernel, by decide +kernel⟩, xw_100, by decide⟩
def m7_callOutermost : xM := (yX7_callOutermost, cX7_callOutermost, 4, (some .int))
theorem ok7_callOutermost : x_ok m7_callOutermost := ⟨xw_953, by decide +kernel, ⟨by decide +kernel, by decide +kernel⟩, xw_100, by decide⟩
def m7_doAct : xM := (yX7_doAct, cX7_doAct, 7, (some .int))
theorem ok7_doAct : x_ok m7_doAct := ⟨xw_976, by decide +kernel, ⟨by decide +kernel, by decide +kernel⟩, xw_100, by decide⟩
def m7_doActs : xM := (yX7_doActs, cX7_doActs, 7, (some .int))
theorem ok7_doActs : x_ok m7_doActs := ⟨xw_972, by decide +kernel, ⟨by decide +kernel, by decide +kernel⟩, xw_100, by decide⟩
def m7_noteBegun : xM := (yX7_noteBegun, cX7_noteBegun, 2, none)
theorem ok7_noteBegun : x_ok m7_noteBegun := ⟨xw_967, by decide +kernel, ⟨by decide +kernel, by decide +kernel⟩, xw_100, by decide⟩
def m7_runBehind : xM := (yX7_runBehind, cX7_runBehind, 5, (some .int))
theorem ok7_runBehind : x_ok m7_runBehind := ⟨xw_987, by decide +kernel, ⟨by decide +kernel, by decide +kernel⟩, xw_100, by decide⟩
def m7_runFrom : xM := (yX7_runFrom, cX7_runFrom, 6, (some .int))
theorem ok7_runFrom : x_ok m7_runFrom := ⟨xw_963, by decide +kernel, ⟨by decide +kernel, by decide +kernel⟩, xw_100, by decide⟩
def m7_wokenThing : xM := (yX7_wokenThing, cX7_wokenThing, 3, (some .int))
theorem ok7_wokenThing : x_ok m7_wokenThing := ⟨xw_981, by decide +kernel, ⟨by decide +kernel, by decide +kernel⟩, xw_100, by decide⟩
def m8_hasPlaces : xM := (yX8_hasPlaces, cX8_hasPlaces, 5, (some .boolean))
theorem ok8_hasPlaces : x_ok m8_hasPlaces := ⟨xw_538, by decide +kernel, ⟨by decide +kernel, by decide +kernel⟩, xw_92, by decide⟩
def m8_haveOneLane : xM := (yX8_haveOneLane, cX8_haveOneLane, 3, (some .boolean))
theorem ok8_haveOneLane : x_ok m8_haveOneLane := ⟨xw_550, by decide +kernel, ⟨by decide +kernel, by decide +kernel⟩, xw_92, by decide⟩
def m8_isLane : xM := (yX8_isLane, cX8_isLane, 1, (some .boolean))
theorem ok8_isLane : x_ok m8_isLane := ⟨xw_512, by decide +kernel, ⟨by decide +kernel, by decide +kernel⟩, xw_92, by decide⟩
def m8_isMissing : xM := (yX8_isMissing, cX8_isMissing, 2, (some .boolean))
theorem ok8_isMissing : x_ok m8_isMissing := ⟨xw_534, by decide +kernel, ⟨by decide +kernel, by decide +kernel⟩, xw_92, by decide⟩
def m8_isSheet : xM := (yX8_isSheet, cX8_isSheet, 1, (some .boolean))
theorem ok8_isSheet : x_ok m8_isSheet := ⟨xw_509, by decide +kernel, ⟨by decide +kernel, by decide +kernel⟩, xw_92, by decide⟩
def m8_item : xM := (yX8_item, cX8_item, 3, (some .int))
theorem ok8_item : x_ok m8_item := ⟨xw_848, by decide +kernel, ⟨by decide +kernel, by decide +kernel⟩, xw_92, by decide⟩
def m8_laidCount : xM := (yX8_laidCount, cX8_laidCount, 3, (some .int))
theorem ok8_laidCount : x_ok m8_laidCount := ⟨xw_1148, by decide +kernel, ⟨by decide +kernel, by decide +kernel⟩, xw_92, by decide⟩
def m8_lay : xM := (yX8_lay, cX8_lay, 5, none)
theorem ok8_lay : x_ok m8_lay := ⟨xw_522, by decide +kernel, ⟨by decide +kernel, by decide +kernel⟩, xw_92, by decide⟩
def m8_lose : xM := (yX8_lose, cX8_lose, 2, (some .int))
theorem ok8_lose : x_ok m8_lose := ⟨xw_565, by decide +kernel, ⟨by decide +kernel, by decide +kernel⟩, xw_92, by decide⟩
def m8_move : xM := (yX8_move, cX8_move, 6, none)
theorem ok8_move : x_ok m8_move := ⟨xw_554, by decide +kernel, ⟨by decide +kernel, by decide +kernel⟩, xw_92, by decide⟩
def m8_put : xM := (yX8_put, cX8_put, 5, (some .int))
theorem ok8_put : x_ok m8_put := ⟨xw_542, by decide +kernel, ⟨by decide +kernel, by decide +kernel⟩, xw_92, by decide⟩
def m9_changesNothing : xM := (yX9_changesNothing, cX9_changesNothing, 11, (some .boolean))
theorem ok9_changesNothing : x_ok m9_changesNothing := ⟨xw_1032, by decide +kernel, ⟨by decide +kernel, by decide +kernel⟩, xw_101, by decide⟩
def m9_factsOfWorld : xM := (yX9_factsOfWorld, cX9_factsOfWorld, 5, (some (.array .int)))
theorem ok9_factsOfWorld : x_ok m9_factsOfWorld := ⟨xw_1018, by decide +kernel, ⟨by decide +kernel, by decide +kernel⟩, xw_101, by decide⟩
def m9_gather : xM := (yX9_gather, cX9_gather, 6, (some .int))
theorem ok9_gather : x_ok m9_gather := ⟨xw_1014, by decide +kernel, ⟨by decide +kernel, by decide +kernel⟩, xw_101, by decide⟩
def m9_gatheredAt : xM := (yX9_gatheredAt, cX9_gatheredAt, 4, (some .int))
theorem ok9_gatheredAt : x_ok m9_gatheredAt := ⟨xw_1023, by decide +kernel, ⟨by decide +kernel, by decide +kernel⟩, xw_101, by decide⟩
def m9_isGreatest : xM := (yX9_isGreatest, cX9_isGreatest, 1, (some .boolean))
theorem ok9_isGreatest : x_ok m9_isGreatest := ⟨xw_1010, by decide +kernel, ⟨by decide +kernel, by decide +kernel⟩, xw_101, by decide⟩
def m10_append : xM := (yX10_append, cX10_append, 5, (some .int))
theorem ok10_append : x_ok m10_append := ⟨xw_578, by decide +kernel, ⟨by decide +kernel, by decide +kernel⟩, xw_93, by decide⟩
def m10_atEnd : xM := (yX10_atEnd, cX10_atEnd, 1, (some .boolean))
theorem ok10_atEnd : x_ok m10_atEnd := ⟨xw_613, by decide +kernel, ⟨by decide +kernel, by decide +kernel⟩, xw_93, by decide⟩
def m10_atName : xM := (yX10_atName, cX10_atName, 2, (some .boolean))
theorem ok10_atName : x_ok m10_atName := ⟨xw_696, by decide +kernel, ⟨by decide +kernel, by decide +kernel⟩, xw_93, by decide⟩
def m10_atNumber : xM := (yX10_atNumber, cX10_atNumber, 1, (some .boolean))
theorem ok10_atNumber : x_ok m10_atNumber := ⟨xw_704, by decide +kernel, ⟨by decide +kernel, by decide +kernel⟩, xw_93, by decide⟩
def m10_atSign : xM := (yX10_atSign, cX10_atSign, 2, (some .boolean))
theorem ok10_atSign : x_ok m10_atSign := ⟨xw_716, by decide +kernel, ⟨by decide +kernel, by decide +kernel⟩, xw_93, by decide⟩
def m10_clear : xM := (yX10_clear, cX10_clear, 1, none)
theorem ok10_clear : x_ok m10_clear := ⟨xw_798, by decide +kernel, ⟨by decide +kernel, by decide +kernel⟩, xw_93, by decide⟩
def m10_endOfRun : xM := (yX10_endOfRun, cX10_endOfRun, 4, (some .int))
theorem ok10_endOfRun : x_ok m10_endOfRun := ⟨xw_605, by decide +kernel, ⟨by decide +kernel, by decide +kernel⟩, xw_93, by decide⟩
def m10_firstToken : xM := (yX10_firstToken, cX10_firstToken, 1, none)
theorem ok10_firstToken : x_ok m10_firstToken := ⟨xw_594, by decide +kernel, ⟨by decide +kernel, by decide +kernel⟩, xw_93, by decide⟩
def m10_hasRoom : xM := (yX10_hasRoom, cX10_hasRoom, 2, (some .boolean))
theorem ok10_hasRoom : x_ok m10_hasRoom := ⟨xw_573, by decide +kernel, ⟨by decide +kernel, by decide +kernel⟩, xw_93, by decide⟩
def m10_length : xM := (yX10_length, cX10_length, 1, (some .int))
theorem ok10_length : x_ok m10_length := ⟨xw_1154, by decide +kernel, ⟨by decide +kernel, by decide +kernel⟩, xw_93, by decide⟩
def m10_matches : xM := (yX10_matches, cX10_matches, 4, (some .boolean))
theorem ok10_matches : x_ok m10_matches := ⟨xw_674, by decide +kernel, ⟨by decide +kernel, by decide +kernel⟩, xw_93, by decide⟩
def m10_nameAmong : xM := (yX10_nameAmong, cX10_nameAmong, 5, (some .int))
theorem ok10_nameAmong : x_ok m10_nameAmong := ⟨xw_622, by decide +kernel, ⟨by decide +kernel, by decide +kernel⟩, xw_93, by decide⟩
def m10_nextToken : xM := (yX10_nextToken, cX10_nextToken, 1, none)
theorem ok10_nextToken : x_ok m10_nextToken := ⟨xw_598, by decide +kernel, ⟨by decide +kernel, by decide +kernel⟩, xw_93, by decide⟩
def m10_number : xM := (yX10_number, cX10_number, 1, (some .int))
theorem ok10_number : x_ok m10_number := ⟨xw_708, by decide +kernel, ⟨by decide +kernel, by decide +kernel⟩, xw_93, by decide⟩
def m10_sortOf : xM := (yX10_sortOf, cX10_sortOf, 2, (some .int))
theorem ok10_sortOf : x_ok m10_sortOf := ⟨xw_601, by decide +kernel, ⟨by decide +kernel, by decide +kernel⟩, xw_93, by decide⟩
def m10_tokenStart : xM := (yX10_tokenStart, cX10_tokenStart, 1, (some .int))
theorem ok10_tokenStart : x_ok m10_tokenStart := ⟨xw_690, by decide +kernel, ⟨by decide +kernel, by decide +kernel⟩, xw_93, by decide⟩
def m10_valueNumber : xM := (yX10_valueNumber, cX10_valueNumber, 2, none)
theorem ok10_valueNumber : x_ok m10_valueNumber := ⟨xw_609, by decide +kernel, ⟨by decide +kernel, by decide +kernel⟩, xw_93, by decide⟩
def m11_as : xM := (yX11_as, cX11_as, 3, (some .int))
theorem ok11_as : x_ok m11_as := ⟨xw_1053, by decide +kernel, ⟨by decide +kernel, by decide +kernel⟩, xw_91, by decide⟩
def m11_ask : xM := (yX11_ask, cX11_ask, 3, (some .int))
theorem ok11_ask : x_ok m11_ask := ⟨xw_1065, by decide +kernel, ⟨by decide +kernel, by decide +kernel⟩, xw_91, by decide⟩
def m11_call : xM := (yX11_call, cX11_call, 4, (some .int))
theorem ok11_call : x_ok m11_call := ⟨xw_944, by decide +kernel, ⟨by decide +kernel, by decide +kernel⟩, xw_91, by decide⟩
def m11_copy : xM := (yX11_copy, cX11_copy, 6, (some .int))
theorem ok11_copy : x_ok m11_copy := ⟨xw_546, by decide +kernel, ⟨by decide +kernel, by decide +kernel⟩, xw_91, by decide⟩
def m11_count : xM := (yX11_count, cX11_count, 2, (some .int))
theorem ok11_count : x_ok m11_count := ⟨xw_1144, by decide +kernel, ⟨by decide +kernel, by decide +kernel⟩, xw_91, by decide⟩
def m11_drop : xM := (yX11_drop, cX11_drop, 2, (some .int))
theorem ok11_drop : x_ok m11_drop := ⟨xw_561, by decide +kernel, ⟨by decide +kernel, by decide +kernel⟩, xw_91, by decide⟩
def m11_fact : xM := (yX11_fact, cX11_fact, 3, (some .int))
theorem ok11_fact : x_ok m11_fact := ⟨xw_833, by decide +kernel, ⟨by decide +kernel, by decide +kernel⟩, xw_91, by decide⟩
def m11_facts : xM := (yX11_facts, cX11_facts, 5, (some .int))
theorem ok11_facts : x_ok m11_facts := ⟨xw_844, by decide +kernel, ⟨by decide +kernel, by decide +kernel⟩, xw_91, by decide⟩
def m11_fault : xM := (yX11_fault, cX11_fault, 1, (some .int))
theorem ok11_fault : x_ok m11_fault := ⟨xw_804, by decide +kernel, ⟨by decide +kernel, by decide +kernel⟩, xw_91, by decide⟩
def m11_feed : xM := (yX11_feed, cX11_feed, 4, (some .int))
theorem ok11_feed : x_ok m11_feed := ⟨xw_569, by decide +kernel, ⟨by decide +kernel, by decide +kernel⟩, xw_91, by decide⟩
def m11_finding : xM := (yX11_finding, cX11_finding, 2, (some .int))
theorem ok11_finding : x_ok m11_finding := ⟨xw_517, by decide +kernel, ⟨by decide +kernel, by decide +kernel⟩, xw_91, by decide⟩
def m11_isCall : xM := (yX11_isCall, cX11_isCall, 4, (some .boolean))
theorem ok11_isCall : x_ok m11_isCall := ⟨xw_948, by decide +kernel, ⟨by decide +kernel, by decide +kernel⟩, xw_91, by decide⟩
def m11_isRoutine : xM := (yX11_isRoutine, cX11_isRoutine, 1, (some .boolean))
theorem ok11_isRoutine : x_ok m11_isRoutine := ⟨xw_902, by decide +kernel, ⟨by decide +kernel, by decide +kernel⟩, xw_91, by decide⟩
def m11_kind : xM := (yX11_kind, cX11_kind, 2, (some .int))
theorem ok11_kind : x_ok m11_kind := ⟨xw_1046, by decide +kernel, ⟨by decide +kernel, by decide +kernel⟩, xw_91, by decide⟩
def m11_layer : xM := (yX11_layer, cX11_layer, 4, (some .int))
theorem ok11_layer : x_ok m11_layer := ⟨xw_812, by decide +kernel, ⟨by decide +kernel, by decide +kernel⟩, xw_91, by decide⟩
def m11_point : xM := (yX11_point, cX11_point, 1, (some .int))
theorem ok11_point : x_ok m11_point := ⟨xw_852, by decide +kernel, ⟨by decide +kernel, by decide +kernel⟩, xw_91, by decide⟩
def m11_ran : xM := (yX11_ran, cX11_ran, 2, (some .int))
theorem ok11_ran : x_ok m11_ran := ⟨xw_995, by decide +kernel, ⟨by decide +kernel, by decide +kernel⟩, xw_91, by decide⟩
def m11_read : xM := (yX11_read, cX11_read, 2, (some .int))
theorem ok11_read : x_ok m11_read := ⟨xw_582, by decide +kernel, ⟨by decide +kernel, by decide +kernel⟩, xw_91, by decide⟩
def m11_row : xM := (yX11_row, cX11_row, 5, (some .int))
theorem ok11_row : x_ok m11_row := ⟨xw_899, by decide +kernel, ⟨by decide +kernel, by decide +kernel⟩, xw_91, by decide⟩
def m11_same : xM := (yX11_same, cX11_same, 6, (some .int))
theorem ok11_same : x_ok m11_same := ⟨xw_1028, by decide +kernel, ⟨by decide +kernel, by decide +kernel⟩, xw_91, by decide⟩
def m11_set : xM := (yX11_set, cX11_set, 4, (some .int))
theorem ok11_set : x_ok m11_set := ⟨xw_530, by decide +kernel, ⟨by decide +kernel, by decide +kernel⟩, xw_91, by decide⟩
def m11_sheet : xM := (yX11_sheet, cX11_sheet, 4, (some .int))
theorem ok11_sheet : x_ok m11_sheet := ⟨xw_506, by decide +kernel, ⟨by decide +kernel, by decide +kernel⟩, xw_91, by decide⟩
def m11_sleep : xM := (yX11_sleep, cX11_sleep, 2, (some .int))
theorem ok11_sleep : x_ok m11_sleep := ⟨xw_890, by decide +kernel, ⟨by decide +kernel, by decide +kernel⟩, xw_91, by decide⟩
def m11_status : xM := (yX11_status, cX11_status, 1, (some .int))
theorem ok11_status : x_ok m11_status := ⟨xw_1158, by decide +kernel, ⟨by decide +kernel, by decide +kernel⟩, xw_91, by decide⟩
def m11_together : xM := (yX11_together, cX11_together, 4, (some .int))
theorem ok11_together : x_ok m11_together := ⟨xw_1007, by decide +kernel, ⟨by decide +kernel, by decide +kernel⟩, xw_91, by decide⟩
def m11_trace : xM := (yX11_trace, cX11_trace, 2, (some .int))
theorem ok11_trace : x_ok m11_trace := ⟨xw_1135, by decide +kernel, ⟨by decide +kernel, by decide +kernel⟩, xw_91, by decide⟩
def m11_wake : xM := (yX11_wake, cX11_wake, 4, (some .int))
theorem ok11_wake : x_ok m11_wake := ⟨xw_872, by decide +kernel, ⟨by decide +kernel, by decide +kernel⟩, xw_91, by decide⟩
def m11_withoutFinding : xM := (yX11_withoutFinding, cX11_withoutFinding, 2, (some .int))
theorem ok11_withoutFinding : x_ok m11_withoutFinding := ⟨xw_526, by decide +kernel, ⟨by decide +kernel, by decide +kernel⟩, xw_91, by decide⟩
def m12_actOfWord : xM := (yX12_actOfWord, cX12_actOfWord, 5, (some .int))
theorem ok12_actOfWord : x_ok m12_actOfWord := ⟨xw_1503, by decide +kernel, ⟨by decide +kernel, by decide +kernel⟩, xw_103, by decide⟩
def m12_as : xM := (yX12_as, cX12_as, 3, (some .int))
theorem ok12_as : x_ok m12_as := ⟨xw_1687, by decide +kernel, ⟨by decide +kernel, by decide +kernel⟩, xw_103, by decide⟩
def m12_ask : xM := (yX12_ask, cX12_ask, 4, (some .int))
theorem ok12_ask : x_ok m12_ask := ⟨xw_1694, by decide +kernel, ⟨by decide +kernel, by decide +kernel⟩, xw_103, by decide⟩
def m12_askedSize : xM := (yX12_askedSize, cX12_askedSize, 3, (some .int))
theorem ok12_askedSize : x_ok m12_askedSize := ⟨xw_1710, by decide +kernel, ⟨by decide +kernel, by decide +kernel⟩, xw_103, by decide⟩
def m12_bad : xM := (yX12_bad, cX12_bad, 2, none)
theorem ok12_bad : x_ok m12_bad := ⟨xw_1452, by decide +kernel, ⟨by decide +kernel, by decide +kernel⟩, xw_103, by decide⟩
def m12_begin : xM := (yX12_begin, cX12_begin, 1, (some .boolean))
theorem ok12_begin : x_ok m12_begin := ⟨xw_1637, by decide +kernel, ⟨by decide +kernel, by decide +kernel⟩, xw_103, by decide⟩
def m12_bits : xM := (yX12_bits, cX12_bits, 3, (some .int))
theorem ok12_bits : x_ok m12_bits := ⟨xw_1713, by decide +kernel, ⟨by decide +kernel, by decide +kernel⟩, xw_103, by decide⟩
def m12_bringBack : xM := (yX12_bringBack, cX12_bringBack, 2, none)
theorem ok12_bringBack : x_ok m12_bringBack := ⟨xw_1671, by decide +kernel, ⟨by decide +kernel, by decide +kernel⟩, xw_103, by decide⟩
def m12_byteAt : xM := (yX12_byteAt, cX12_byteAt, 2, (some .int))
theorem ok12_byteAt : x_ok m12_byteAt := ⟨xw_1430, by decide +kernel, ⟨by decide +kernel, by decide +kernel⟩, xw_103, by decide⟩
def m12_call : xM := (yX12_call, cX12_call, 6, (some .int))
theorem ok12_call : x_ok m12_call := ⟨xw_1612, by decide +kernel, ⟨by decide +kernel, by decide +kernel⟩, xw_103, by decide⟩
def m12_close : xM := (yX12_close, cX12_close, 3, none)
theorem ok12_close : x_ok m12_close := ⟨xw_1583, by decide +kernel, ⟨by decide +kernel, by decide +kernel⟩, xw_103, by decide⟩
def m12_comeBack : xM := (yX12_comeBack, cX12_comeBack, 4, (some .boolean))
theorem ok12_comeBack : x_ok m12_comeBack := ⟨xw_1625, by decide +kernel, ⟨by decide +kernel, by decide +kernel⟩, xw_103, by decide⟩
def m12_copy : xM := (yX12_copy, cX12_copy, 9, (some .int))
theorem ok12_copy : x_ok m12_copy := ⟨xw_1407, by decide +kernel, ⟨by decide +kernel, by decide +kernel⟩, xw_103, by decide⟩
def m12_count : xM := (yX12_count, cX12_count, 4, (some .int))
theorem ok12_count : x_ok m12_count := ⟨xw_1721, by decide +kernel, ⟨by decide +kernel, by decide +kernel⟩, xw_103, by decide⟩
def m12_doActs : xM := (yX12_doActs, cX12_doActs, 6, none)
theorem ok12_doActs : x_ok m12_doActs := ⟨xw_1645, by decide +kernel, ⟨by decide +kernel, by decide +kernel⟩, xw_103, by decide⟩
def m12_drop : xM := (yX12_drop, cX12_drop, 2, (some .int))
theorem ok12_drop : x_ok m12_drop := ⟨xw_1411, by decide +kernel, ⟨by decide +kernel, by decide +kernel⟩, xw_103, by decide⟩
def m12_fact : xM := (yX12_fact, cX12_fact, 4, (some .int))
theorem ok12_fact : x_ok m12_fact := ⟨xw_1540, by decide +kernel, ⟨by decide +kernel, by decide +kernel⟩, xw_103, by decide⟩
def m12_facts : xM := (yX12_facts, cX12_facts, 5, (some .int))
theorem ok12_facts : x_ok m12_facts := ⟨xw_1546, by decide +kernel, ⟨by decide +kernel, by decide +kernel⟩, xw_103, by decide⟩
def m12_fault : xM := (yX12_fault, cX12_fault, 1, (some .int))
theorem ok12_fault : x_ok m12_fault := ⟨xw_1519, by decide +kernel, ⟨by decide +kernel, by decide +kernel⟩, xw_103, by decide⟩
def m12_feed : xM := (yX12_feed, cX12_feed, 5, (some .int))
theorem ok12_feed : x_ok m12_feed := ⟨xw_1415, by decide +kernel, ⟨by decide +kernel, by decide +kernel⟩, xw_103, by decide⟩
def m12_find : xM := (yX12_find, cX12_find, 3, none)
theorem ok12_find : x_ok m12_find := ⟨xw_1555, by decide +kernel, ⟨by decide +kernel, by decide +kernel⟩, xw_103, by decide⟩
def m12_finding : xM := (yX12_finding, cX12_finding, 2, (some .int))
theorem ok12_finding : x_ok m12_finding := ⟨xw_1398, by decide +kernel, ⟨by decide +kernel, by decide +kernel⟩, xw_103, by decide⟩
def m12_goNext : xM := (yX12_goNext, cX12_goNext, 2, none)
theorem ok12_goNext : x_ok m12_goNext := ⟨xw_1641, by decide +kernel, ⟨by decide +kernel, by decide +kernel⟩, xw_103, by decide⟩
def m12_hasNeeds : xM := (yX12_hasNeeds, cX12_hasNeeds, 4, (some .boolean))
theorem ok12_hasNeeds : x_ok m12_hasNeeds := ⟨xw_1563, by decide +kernel, ⟨by decide +kernel, by decide +kernel⟩, xw_103, by decide⟩
def m12_holdsTest : xM := (yX12_holdsTest, cX12_holdsTest, 3, (some .boolean))
theorem ok12_holdsTest : x_ok m12_holdsTest := ⟨xw_1559, by decide +kernel, ⟨by decide +kernel, by decide +kernel⟩, xw_103, by decide⟩
def m12_in : xM := (yX12_in, cX12_in, 6, (some .boolean))
theorem ok12_in : x_ok m12_in := ⟨xw_1392, by decide +kernel, ⟨by decide +kernel, by decide +kernel⟩, xw_103, by decide⟩
def m12_is : xM := (yX12_is, cX12_is, 2, (some .boolean))
theorem ok12_is : x_ok m12_is := ⟨xw_1484, by decide +kernel, ⟨by decide +kernel, by decide +kernel⟩, xw_103, by decide⟩
def m12_isAhead : xM := (yX12_isAhead, cX12_isAhead, 4, (some .boolean))
theorem ok12_isAhead : x_ok m12_isAhead := ⟨xw_1604, by decide +kernel, ⟨by decide +kernel, by decide +kernel⟩, xw_103, by decide⟩
def m12_isAwake : xM := (yX12_isAwake, cX12_isAwake, 2, (some .boolean))
theorem ok12_isAwake : x_ok m12_isAwake := ⟨xw_1532, by decide +kernel, ⟨by decide +kernel, by decide +kernel⟩, xw_103, by decide⟩
def m12_isAwakeFor : xM := (yX12_isAwakeFor, cX12_isAwakeFor, 3, (some .boolean))
theorem ok12_isAwakeFor : x_ok m12_isAwakeFor := ⟨xw_1596, by decide +kernel, ⟨by decide +kernel, by decide +kernel⟩, xw_103, by decide⟩
def m12_isFigure : xM := (yX12_isFigure, cX12_isFigure, 1, (some .boolean))
theorem ok12_isFigure : x_ok m12_isFigure := ⟨xw_1437, by decide +kernel, ⟨by decide +kernel, by decide +kernel⟩, xw_103, by decide⟩
def m12_isLayer : xM := (yX12_isLayer, cX12_isLayer, 2, (some .boolean))
theorem ok12_isLayer : x_ok m12_isLayer := ⟨xw_1527, by decide +kernel, ⟨by decide +kernel, by decide +kernel⟩, xw_103, by decide⟩
def m12_isLetter : xM := (yX12_isLetter, cX12_isLetter, 1, (some .boolean))
theorem ok12_isLetter : x_ok m12_isLetter := ⟨xw_1434, by decide +kernel, ⟨by decide +kernel, by decide +kernel⟩, xw_103, by decide⟩
def m12_isNumber : xM := (yX12_isNumber, cX12_isNumber, 2, (some .boolean))
theorem ok12_isNumber : x_ok m12_isNumber := ⟨xw_1616, by decide +kernel, ⟨by decide +kernel, by decide +kernel⟩, xw_103, by decide⟩
def m12_isOf : xM := (yX12_isOf, cX12_isOf, 2, (some .boolean))
theorem ok12_isOf : x_ok m12_isOf := ⟨xw_1690, by decide +kernel, ⟨by decide +kernel, by decide +kernel⟩, xw_103, by decide⟩
def m12_isSheet : xM := (yX12_isSheet, cX12_isSheet, 1, (some .boolean))
theorem ok12_isSheet : x_ok m12_isSheet := ⟨xw_1388, by decide +kernel, ⟨by decide +kernel, by decide +kernel⟩, xw_103, by decide⟩
def m12_isSign : xM := (yX12_isSign, cX12_isSign, 1, (some .boolean))
theorem ok12_isSign : x_ok m12_isSign := ⟨xw_1440, by decide +kernel, ⟨by decide +kernel, by decide +kernel⟩, xw_103, by decide⟩
def m12_isThing : xM := (yX12_isThing, cX12_isThing, 2, (some .boolean))
theorem ok12_isThing : x_ok m12_isThing := ⟨xw_1575, by decide +kernel, ⟨by decide +kernel, by decide +kernel⟩, xw_103, by decide⟩
def m12_keep : xM := (yX12_keep, cX12_keep, 2, none)
theorem ok12_keep : x_ok m12_keep := ⟨xw_1660, by decide +kernel, ⟨by decide +kernel, by decide +kernel⟩, xw_103, by decide⟩
def m12_kind : xM := (yX12_kind, cX12_kind, 2, (some .int))
theorem ok12_kind : x_ok m12_kind := ⟨xw_1679, by decide +kernel, ⟨by decide +kernel, by decide +kernel⟩, xw_103, by decide⟩
def m12_kindOf : xM := (yX12_kindOf, cX12_kindOf, 2, (some .int))
theorem ok12_kindOf : x_ok m12_kindOf := ⟨xw_1683, by decide +kernel, ⟨by decide +kernel, by decide +kernel⟩, xw_103, by decide⟩
def m12_latestOf : xM := (yX12_latestOf, cX12_latestOf, 5, (some .int))
theorem ok12_latestOf : x_ok m12_latestOf := ⟨xw_1600, by decide +kernel, ⟨by decide +kernel, by decide +kernel⟩, xw_103, by decide⟩
def m12_lay : xM := (yX12_lay, cX12_lay, 7, (some .boolean))
theorem ok12_lay : x_ok m12_lay := ⟨xw_1608, by decide +kernel, ⟨by decide +kernel, by decide +kernel⟩, xw_103, by decide⟩
def m12_layRow : xM := (yX12_layRow, cX12_layRow, 10, none)
theorem ok12_layRow : x_ok m12_layRow := ⟨xw_1592, by decide +kernel, ⟨by decide +kernel, by decide +kernel⟩, xw_103, by decide⟩
def m12_layer : xM := (yX12_layer, cX12_layer, 3, (some .int))
theorem ok12_layer : x_ok m12_layer := ⟨xw_1523, by decide +kernel, ⟨by decide +kernel, by decide +kernel⟩, xw_103, by decide⟩
def m12_leaves : xM := (yX12_leaves, cX12_leaves, 2, none)
theorem ok12_leaves : x_ok m12_leaves := ⟨xw_1702, by decide +kernel, ⟨by decide +kernel, by decide +kernel⟩, xw_103, by decide⟩
def m12_lose : xM := (yX12_lose, cX12_lose, 3, none)
theorem ok12_lose : x_ok m12_lose := ⟨xw_1567, by decide +kernel, ⟨by decide +kernel, by decide +kernel⟩, xw_103, by decide⟩
def m12_makeWorld : xM := (yX12_makeWorld, cX12_makeWorld, 5, none)
theorem ok12_makeWorld : x_ok m12_makeWorld := ⟨xw_1667, by decide +kernel, ⟨by decide +kernel, by decide +kernel⟩, xw_103, by decide⟩
def m12_markOf : xM := (yX12_markOf, cX12_markOf, 5, (some .int))
theorem ok12_markOf : x_ok m12_markOf := ⟨xw_1698, by decide +kernel, ⟨by decide +kernel, by decide +kernel⟩, xw_103, by decide⟩
def m12_must : xM := (yX12_must, cX12_must, 2, none)
theorem ok12_must : x_ok m12_must := ⟨xw_1456, by decide +kernel, ⟨by decide +kernel, by decide +kernel⟩, xw_103, by decide⟩
def m12_numberTo : xM := (yX12_numberTo, cX12_numberTo, 4, (some .int))
theorem ok12_numberTo : x_ok m12_numberTo := ⟨xw_1465, by decide +kernel, ⟨by decide +kernel, by decide +kernel⟩, xw_103, by decide⟩
def m12_openOf : xM := (yX12_openOf, cX12_openOf, 4, (some .int))
theorem ok12_openOf : x_ok m12_openOf := ⟨xw_1536, by decide +kernel, ⟨by decide +kernel, by decide +kernel⟩, xw_103, by decide⟩
def m12_outermost : xM := (yX12_outermost, cX12_outermost, 5, (some .int))
theorem ok12_outermost : x_ok m12_outermost := ⟨xw_1621, by decide +kernel, ⟨by decide +kernel, by decide +kernel⟩, xw_103, by decide⟩
def m12_over : xM := (yX12_over, cX12_over, 3, none)
theorem ok12_over : x_ok m12_over := ⟨xw_1633, by decide +kernel, ⟨by decide +kernel, by decide +kernel⟩, xw_103, by decide⟩
def m12_point : xM := (yX12_point, cX12_point, 2, (some .int))
theorem ok12_point : x_ok m12_point := ⟨xw_1551, by decide +kernel, ⟨by decide +kernel, by decide +kernel⟩, xw_103, by decide⟩
def m12_ran : xM := (yX12_ran, cX12_ran, 2, (some .int))
theorem ok12_ran : x_ok m12_ran := ⟨xw_1651, by decide +kernel, ⟨by decide +kernel, by decide +kernel⟩, xw_103, by decide⟩
def m12_read : xM := (yX12_read, cX12_read, 3, (some .int))
theorem ok12_read : x_ok m12_read := ⟨xw_1422, by decide +kernel, ⟨by decide +kernel, by decide +kernel⟩, xw_103, by decide⟩
def m12_readAct : xM := (yX12_readAct, cX12_readAct, 6, none)
theorem ok12_readAct : x_ok m12_readAct := ⟨xw_1514, by decide +kernel, ⟨by decide +kernel, by decide +kernel⟩, xw_103, by decide⟩
def m12_readBody : xM := (yX12_readBody, cX12_readBody, 2, none)
theorem ok12_readBody : x_ok m12_readBody := ⟨xw_1490, by decide +kernel, ⟨by decide +kernel, by decide +kernel⟩, xw_103, by decide⟩
def m12_readKind : xM := (yX12_readKind, cX12_readKind, 1, none)
theorem ok12_readKind : x_ok m12_readKind := ⟨xw_1460, by decide +kernel, ⟨by decide +kernel, by decide +kernel⟩, xw_103, by decide⟩
def m12_readLayer : xM := (yX12_readLayer, cX12_readLayer, 4, none)
theorem ok12_readLayer : x_ok m12_readLayer := ⟨xw_1473, by decide +kernel, ⟨by decide +kernel, by decide +kernel⟩, xw_103, by decide⟩
def m12_readThing : xM := (yX12_readThing, cX12_readThing, 1, none)
theorem ok12_readThing : x_ok m12_readThing := ⟨xw_1469, by decide +kernel, ⟨by decide +kernel, by decide +kernel⟩, xw_103, by decide⟩
def m12_row : xM := (yX12_row, cX12_row, 4, (some .int))
theorem ok12_row : x_ok m12_row := ⟨xw_1588, by decide +kernel, ⟨by decide +kernel, by decide +kernel⟩, xw_103, by decide⟩
def m12_same : xM := (yX12_same, cX12_same, 10, (some .int))
theorem ok12_same : x_ok m12_same := ⟨xw_1675, by decide +kernel, ⟨by decide +kernel, by decide +kernel⟩, xw_103, by decide⟩
def m12_set : xM := (yX12_set, cX12_set, 4, (some .int))
theorem ok12_set : x_ok m12_set := ⟨xw_1403, by decide +kernel, ⟨by decide +kernel, by decide +kernel⟩, xw_103, by decide⟩
def m12_sheet : xM := (yX12_sheet, cX12_sheet, 5, (some .int))
theorem ok12_sheet : x_ok m12_sheet := ⟨xw_1385, by decide +kernel, ⟨by decide +kernel, by decide +kernel⟩, xw_103, by decide⟩
def m12_sizeOf : xM := (yX12_sizeOf, cX12_sizeOf, 4, (some .int))
theorem ok12_sizeOf : x_ok m12_sizeOf := ⟨xw_1706, by decide +kernel, ⟨by decide +kernel, by decide +kernel⟩, xw_103, by decide⟩
def m12_sleep : xM := (yX12_sleep, cX12_sleep, 3, (some .int))
theorem ok12_sleep : x_ok m12_sleep := ⟨xw_1579, by decide +kernel, ⟨by decide +kernel, by decide +kernel⟩, xw_103, by decide⟩
def m12_sortOfWord : xM := (yX12_sortOfWord, cX12_sortOfWord, 3, (some .int))
theorem ok12_sortOfWord : x_ok m12_sortOfWord := ⟨xw_1477, by decide +kernel, ⟨by decide +kernel, by decide +kernel⟩, xw_103, by decide⟩
def m12_status : xM := (yX12_status, cX12_status, 1, (some .int))
theorem ok12_status : x_ok m12_status := ⟨xw_1725, by decide +kernel, ⟨by decide +kernel, by decide +kernel⟩, xw_103, by decide⟩
def m12_step : xM := (yX12_step, cX12_step, 2, none)
theorem ok12_step : x_ok m12_step := ⟨xw_1426, by decide +kernel, ⟨by decide +kernel, by decide +kernel⟩, xw_103, by decide⟩
def m12_together : xM := (yX12_together, cX12_together, 5, (some .int))
theorem ok12_together : x_ok m12_together := ⟨xw_1656, by decide +kernel, ⟨by decide +kernel, by decide +kernel⟩, xw_103, by decide⟩
def m12_topBody : xM := (yX12_topBody, cX12_topBody, 1, (some .int))
theorem ok12_topBody : x_ok m12_topBody := ⟨xw_1629, by decide +kernel, ⟨by decide +kernel, by decide +kernel⟩, xw_103, by decide⟩
def m12_trace : xM := (yX12_trace, cX12_trace, 2, (some .int))
theorem ok12_trace : x_ok m12_trace := ⟨xw_1717, by decide +kernel, ⟨by decide +kernel, by decide +kernel⟩, xw_103, by decide⟩
def m12_wake : xM := (yX12_wake, cX12_wake, 3, (some .int))
theorem ok12_wake : x_ok m12_wake := ⟨xw_1571, by decide +kernel, ⟨by decide +kernel, by decide +kernel⟩, xw_103, by decide⟩
def m12_wayOfWord : xM := (yX12_wayOfWord, cX12_wayOfWord, 3, (some .int))
theorem ok12_wayOfWord : x_ok m12_wayOfWord := ⟨xw_1495, by decide +kernel, ⟨by decide +kernel, by decide +kernel⟩, xw_103, by decide⟩
def m12_word : xM := (yX12_word, cX12_word, 4, (some .long))
theorem ok12_word : x_ok m12_word := ⟨xw_1444, by decide +kernel, ⟨by decide +kernel, by decide +kernel⟩, xw_103, by decide⟩
def m12_worlds : xM := (yX12_worlds, cX12_worlds, 1, (some .int))
theorem ok12_worlds : x_ok m12_worlds := ⟨xw_1663, by decide +kernel, ⟨by decide +kernel, by decide +kernel⟩, xw_103, by decide⟩
def mJ_bitCount : xM := (yJ6_bitCount_0f7a4, cJ6_bitCount_0f7a4, 1, (some .int))
theorem okJ_bitCount : x_ok mJ_bitCount := ⟨xw_1127, by decide +kernel, ⟨by decide +kernel, by decide +kernel⟩, xw_109, by decide⟩
theorem cs_0_45 : x_CS RX0 45 m0_kindOf 1 := ⟨xw_1077, xw_1048, by decide +kernel, ok0_kindOf⟩
theorem cs_0_89 : x_CS RX0 89 mJ_bitCount 1 := ⟨xw_1125, xw_1126, by decide +kernel, okJ_bitCount⟩
theorem cs_10_29 : x_CS RX10 29 m10_sortOf 1 := ⟨xw_599, xw_600, by decide +kernel, ok10_sortOf⟩
theorem cs_11_174 : x_CS RX11 174 m2_isFactValue 1 := ⟨xw_834, xw_835, by decide +kernel, ok2_isFactValue⟩
theorem cs_11_205 : x_CS RX11 205 m11_isRoutine 1 := ⟨xw_900, xw_901, by decide +kernel, ok11_isRoutine⟩
theorem cs_11_224 : x_CS RX11 224 m9_isGreatest 1 := ⟨xw_1008, xw_1009, by decide +kernel, ok9_isGreatest⟩
theorem cs_11_237 : x_CS RX11 237 m0_kindOf 1 := ⟨xw_1047, xw_1048, by decide +kernel, ok0_kindOf⟩
theorem cs_11_241 : x_CS RX11 241 m0_isKind 1 := ⟨xw_1054, xw_1055, by decide +kernel, ok0_isKind⟩
theorem cs_11_244 : x_CS RX11 244 m0_isOne 2 := ⟨xw_1057, xw_1058, by decide +kernel, ok0_isOne⟩
theorem cs_11_247 : x_CS RX11 247 m0_isAsk 1 := ⟨xw_1066, xw_1067, by decide +kernel, ok0_isAsk⟩
theorem cs_11_277 : x_CS RX11 277 mJ_bitCount 1 := ⟨xw_1150, xw_1126, by decide +kernel, okJ_bitCount⟩
theorem cs_11_86 : x_CS RX11 86 m8_isSheet 1 := ⟨xw_507, xw_508, by decide +kernel, ok8_isSheet⟩
theorem cs_11_90 : x_CS RX11 90 m8_isLane 1 := ⟨xw_510, xw_511, by decide +kernel, ok8_isLane⟩
theorem cs_12_141 : x_CS RX12 141 m12_in 3 := ⟨xw_1390, xw_1391, by decide +kernel, ok12_in⟩
theorem cs_12_145 : x_CS RX12 145 m12_isSheet 1 := ⟨xw_1386, xw_1387, by decide +kernel, ok12_isSheet⟩
theorem cs_12_180 : x_CS RX12 180 m12_isLetter 1 := ⟨xw_1432, xw_1433, by decide +kernel, ok12_isLetter⟩
theorem cs_12_183 : x_CS RX12 183 m12_isFigure 1 := ⟨xw_1435, xw_1436, by decide +kernel, ok12_isFigure⟩
theorem cs_12_186 : x_CS RX12 186 m12_isSign 1 := ⟨xw_1438, xw_1439, by decide +kernel, ok12_isSign⟩
theorem cs_12_444 : x_CS RX12 444 m12_worlds 1 := ⟨xw_1661, xw_1662, by decide +kernel, ok12_worlds⟩
theorem cs_12_457 : x_CS RX12 457 m12_isOf 2 := ⟨xw_1688, xw_1689, by decide +kernel, ok12_isOf⟩
theorem cs_12_472 : x_CS RX12 472 m12_bits 1 := ⟨xw_1711, xw_1712, by decide +kernel, ok12_bits⟩
theorem cv_0_101 : x_CV RX0 101 m0_sizeOf 1 := ⟨xw_1120, xw_1074, xw_1075, by decide +kernel, ok0_sizeOf⟩
theorem cv_0_49 : x_CV RX0 49 m0_sizeOfSpanned 1 := ⟨xw_1078, xw_1080, (x_in 35 (by decide +kernel) rfl), by decide +kernel, ok0_sizeOfSpanned⟩
theorem cv_0_53 : x_CV RX0 53 m0_sizeOfOwned 1 := ⟨xw_1091, xw_1093, (x_in 38 (by decide +kernel) rfl), by decide +kernel, ok0_sizeOfOwned⟩
theorem cv_0_56 : x_CV RX0 56 m0_sizeOfAsked 1 := ⟨xw_1095, xw_1097, (x_in 39 (by decide +kernel) rfl), by decide +kernel, ok0_sizeOfAsked⟩
theorem cv_0_59 : x_CV RX0 59 m0_sizeOfNeeding 1 := ⟨xw_1121, xw_1123, (x_in 43 (by decide +kernel) rfl), by decide +kernel, ok0_sizeOfNeeding⟩
theorem cv_0_62 : x_CV RX0 62 m0_lentSize 1 := ⟨xw_1086, xw_1088, (x_in 37 (by decide +kernel) rfl), by decide +kernel, ok0_lentSize⟩
theorem cv_0_65 : x_CV RX0 65 m0_markOfAsked 1 := ⟨xw_1103, xw_1105, (x_in 40 (by decide +kernel) rfl), by decide +kernel, ok0_markOfAsked⟩
theorem cv_0_68 : x_CV RX0 68 m0_markOfEver 1 := ⟨xw_1116, xw_1118, (x_in 42 (by decide +kernel) rfl), by decide +kernel, ok0_markOfEver⟩
theorem cv_0_71 : x_CV RX0 71 m0_lentMark 1 := ⟨xw_1107, xw_1109, (x_in 41 (by decide +kernel) rfl), by decide +kernel, ok0_lentMark⟩
theorem cv_0_74 : x_CV RX0 74 m0_leave 1 := ⟨xw_1082, xw_1084, (x_in 36 (by decide +kernel) rfl), by decide +kernel, ok0_leave⟩
theorem cv_0_81 : x_CV RX0 81 m2_openOf 1 := ⟨xw_1090, xw_827, xw_828, by decide +kernel, ok2_openOf⟩
theorem cv_0_86 : x_CV RX0 86 m0_markOf 1 := ⟨xw_1099, xw_1100, xw_1101, by decide +kernel, ok0_markOf⟩
theorem cv_0_94 : x_CV RX0 94 m4_bodiesOf 1 := ⟨xw_1111, xw_1112, xw_1113, by decide +kernel, ok4_bodiesOf⟩
theorem cv_0_97 : x_CV RX0 97 m2_isFound 1 := ⟨xw_1115, xw_926, xw_927, by decide +kernel, ok2_isFound⟩
theorem cv_2_32 : x_CV RX2 32 m2_settled 1 := ⟨xw_865, xw_866, xw_867, by decide +kernel, ok2_settled⟩
theorem cv_2_37 : x_CV RX2 37 m2_awakeUnasked 0 := ⟨xw_822, xw_824, (x_in 20 (by decide +kernel) rfl), by decide +kernel, ok2_awakeUnasked⟩
theorem cv_2_41 : x_CV RX2 41 m2_awakeSet 0 := ⟨xw_818, xw_819, xw_820, by decide +kernel, ok2_awakeSet⟩
theorem cv_2_58 : x_CV RX2 58 m2_foundAtPoint 1 := ⟨xw_857, xw_858, xw_859, by decide +kernel, ok2_foundAtPoint⟩
theorem cv_2_62 : x_CV RX2 62 m3_testHolds 1 := ⟨xw_861, xw_862, xw_863, by decide +kernel, ok3_testHolds⟩
theorem cv_5_105 : x_CV RX5 105 m4_addThing 2 := ⟨xw_725, xw_726, xw_727, by decide +kernel, ok4_addThing⟩
theorem cv_5_117 : x_CV RX5 117 m5_takeWord 1 := ⟨xw_734, xw_736, (x_in 13 (by decide +kernel) rfl), by decide +kernel, ok5_takeWord⟩
theorem cv_5_120 : x_CV RX5 120 m3_begin 2 := ⟨xw_738, xw_739, xw_740, by decide +kernel, ok3_begin⟩
theorem cv_5_125 : x_CV RX5 125 m10_atNumber 0 := ⟨xw_701, xw_702, xw_703, by decide +kernel, ok10_atNumber⟩
theorem cv_5_128 : x_CV RX5 128 m5_readTest 1 := ⟨xw_742, xw_744, (x_in 14 (by decide +kernel) rfl), by decide +kernel, ok5_readTest⟩
theorem cv_5_132 : x_CV RX5 132 m5_readNeedsAndBars 1 := ⟨xw_750, xw_752, (x_in 15 (by decide +kernel) rfl), by decide +kernel, ok5_readNeedsAndBars⟩
theorem cv_5_137 : x_CV RX5 137 m10_atSign 1 := ⟨xw_713, xw_714, xw_715, by decide +kernel, ok10_atSign⟩
theorem cv_5_141 : x_CV RX5 141 m3_beginTest 3 := ⟨xw_746, xw_747, xw_748, by decide +kernel, ok3_beginTest⟩
theorem cv_5_162 : x_CV RX5 162 m5_takeOwner 0 := ⟨xw_760, xw_762, (x_in 17 (by decide +kernel) rfl), by decide +kernel, ok5_takeOwner⟩
theorem cv_5_168 : x_CV RX5 168 m1_begin 4 := ⟨xw_766, xw_767, xw_768, by decide +kernel, ok1_begin⟩
theorem cv_5_173 : x_CV RX5 173 m5_readAct 1 := ⟨xw_770, xw_772, (x_in 18 (by decide +kernel) rfl), by decide +kernel, ok5_readAct⟩
theorem cv_5_185 : x_CV RX5 185 m5_refuseUnwoken 0 := ⟨xw_775, xw_777, (x_in 19 (by decide +kernel) rfl), by decide +kernel, ok5_refuseUnwoken⟩
theorem cv_5_188 : x_CV RX5 188 m1_addAct 3 := ⟨xw_787, xw_788, xw_789, by decide +kernel, ok1_addAct⟩
theorem cv_5_194 : x_CV RX5 194 m10_number 0 := ⟨xw_705, xw_706, xw_707, by decide +kernel, ok10_number⟩
theorem cv_5_197 : x_CV RX5 197 m4_isLayer 1 := ⟨xw_779, xw_780, xw_781, by decide +kernel, ok4_isLayer⟩
theorem cv_5_201 : x_CV RX5 201 m3_isWoken 0 := ⟨xw_783, xw_784, xw_785, by decide +kernel, ok3_isWoken⟩
theorem cv_5_204 : x_CV RX5 204 m10_tokenStart 0 := ⟨xw_687, xw_688, xw_689, by decide +kernel, ok10_tokenStart⟩
theorem cv_5_27 : x_CV RX5 27 m4_keepCounts 0 := ⟨xw_587, xw_588, xw_589, by decide +kernel, ok4_keepCounts⟩
theorem cv_5_32 : x_CV RX5 32 m10_firstToken 0 := ⟨xw_591, xw_592, xw_593, by decide +kernel, ok10_firstToken⟩
theorem cv_5_37 : x_CV RX5 37 m10_atEnd 0 := ⟨xw_610, xw_611, xw_612, by decide +kernel, ok10_atEnd⟩
theorem cv_5_41 : x_CV RX5 41 m5_readTelling 0 := ⟨xw_614, xw_616, (x_in 4 (by decide +kernel) rfl), by decide +kernel, ok5_readTelling⟩
theorem cv_5_44 : x_CV RX5 44 m4_restoreCounts 0 := ⟨xw_791, xw_792, xw_793, by decide +kernel, ok4_restoreCounts⟩
theorem cv_5_47 : x_CV RX5 47 m10_clear 0 := ⟨xw_795, xw_796, xw_797, by decide +kernel, ok10_clear⟩
theorem cv_5_55 : x_CV RX5 55 m10_nameAmong 1 := ⟨xw_619, xw_620, xw_621, by decide +kernel, ok10_nameAmong⟩
theorem cv_5_59 : x_CV RX5 59 m5_readKind 0 := ⟨xw_675, xw_677, (x_in 6 (by decide +kernel) rfl), by decide +kernel, ok5_readKind⟩
theorem cv_5_62 : x_CV RX5 62 m5_readThing 0 := ⟨xw_721, xw_723, (x_in 11 (by decide +kernel) rfl), by decide +kernel, ok5_readThing⟩
theorem cv_5_65 : x_CV RX5 65 m5_readLayer 0 := ⟨xw_729, xw_731, (x_in 12 (by decide +kernel) rfl), by decide +kernel, ok5_readLayer⟩
theorem cv_5_68 : x_CV RX5 68 m5_readBody 0 := ⟨xw_756, xw_758, (x_in 16 (by decide +kernel) rfl), by decide +kernel, ok5_readBody⟩
theorem cv_5_71 : x_CV RX5 71 m5_refuse 1 := ⟨xw_683, xw_685, (x_in 8 (by decide +kernel) rfl), by decide +kernel, ok5_refuse⟩
theorem cv_5_78 : x_CV RX5 78 m5_takeFirstWord 2 := ⟨xw_679, xw_681, (x_in 7 (by decide +kernel) rfl), by decide +kernel, ok5_takeFirstWord⟩
theorem cv_5_84 : x_CV RX5 84 m10_atName 1 := ⟨xw_693, xw_694, xw_695, by decide +kernel, ok10_atName⟩
theorem cv_5_88 : x_CV RX5 88 m10_nextToken 0 := ⟨xw_691, xw_596, xw_597, by decide +kernel, ok10_nextToken⟩
theorem cv_5_91 : x_CV RX5 91 m5_takeNumber 1 := ⟨xw_697, xw_699, (x_in 9 (by decide +kernel) rfl), by decide +kernel, ok5_takeNumber⟩
theorem cv_5_95 : x_CV RX5 95 m5_takeSign 1 := ⟨xw_709, xw_711, (x_in 10 (by decide +kernel) rfl), by decide +kernel, ok5_takeSign⟩
theorem cv_5_99 : x_CV RX5 99 m4_addKind 1 := ⟨xw_717, xw_718, xw_719, by decide +kernel, ok4_addKind⟩
theorem cv_6_29 : x_CV RX6 29 m6_gatherFitting 2 := ⟨xw_907, xw_909, (x_in 21 (by decide +kernel) rfl), by decide +kernel, ok6_gatherFitting⟩
theorem cv_6_40 : x_CV RX6 40 m6_weight 2 := ⟨xw_915, xw_917, (x_in 22 (by decide +kernel) rfl), by decide +kernel, ok6_weight⟩
theorem cv_6_44 : x_CV RX6 44 m6_takeHeaviest 0 := ⟨xw_929, xw_931, (x_in 23 (by decide +kernel) rfl), by decide +kernel, ok6_takeHeaviest⟩
theorem cv_6_48 : x_CV RX6 48 m6_addBodies 3 := ⟨xw_933, xw_935, (x_in 24 (by decide +kernel) rfl), by decide +kernel, ok6_addBodies⟩
theorem cv_6_58 : x_CV RX6 58 m3_isWoken 0 := ⟨xw_919, xw_784, xw_785, by decide +kernel, ok3_isWoken⟩
theorem cv_6_64 : x_CV RX6 64 m2_latestOpen 2 := ⟨xw_920, xw_921, xw_922, by decide +kernel, ok2_latestOpen⟩
theorem cv_6_75 : x_CV RX6 75 m2_isFound 1 := ⟨xw_925, xw_926, xw_927, by decide +kernel, ok2_isFound⟩
theorem cv_6_86 : x_CV RX6 86 m1_isFor 2 := ⟨xw_911, xw_912, xw_913, by decide +kernel, ok1_isFor⟩
theorem cv_6_93 : x_CV RX6 93 m6_isEnded 2 := ⟨xw_937, xw_939, (x_in 25 (by decide +kernel) rfl), by decide +kernel, ok6_isEnded⟩
theorem cv_7_112 : x_CV RX7 112 m7_wokenThing 2 := ⟨xw_978, xw_980, (x_in 32 (by decide +kernel) rfl), by decide +kernel, ok7_wokenThing⟩
theorem cv_7_116 : x_CV RX7 116 m2_openWaking 2 := ⟨xw_983, xw_880, xw_881, by decide +kernel, ok2_openWaking⟩
theorem cv_7_49 : x_CV RX7 49 m7_callAt 4 := ⟨xw_954, xw_956, (x_in 27 (by decide +kernel) rfl), by decide +kernel, ok7_callAt⟩
theorem cv_7_54 : x_CV RX7 54 m6_fill 3 := ⟨xw_959, xw_904, xw_905, by decide +kernel, ok6_fill⟩
theorem cv_7_60 : x_CV RX7 60 m7_runFrom 3 := ⟨xw_960, xw_962, (x_in 28 (by decide +kernel) rfl), by decide +kernel, ok7_runFrom⟩
theorem cv_7_64 : x_CV RX7 64 m7_noteBegun 1 := ⟨xw_964, xw_966, (x_in 29 (by decide +kernel) rfl), by decide +kernel, ok7_noteBegun⟩
theorem cv_7_68 : x_CV RX7 68 m2_openCount 0 := ⟨xw_968, xw_884, xw_885, by decide +kernel, ok2_openCount⟩
theorem cv_7_83 : x_CV RX7 83 m7_doActs 3 := ⟨xw_969, xw_971, (x_in 30 (by decide +kernel) rfl), by decide +kernel, ok7_doActs⟩
theorem cv_7_86 : x_CV RX7 86 m7_runBehind 3 := ⟨xw_984, xw_986, (x_in 33 (by decide +kernel) rfl), by decide +kernel, ok7_runBehind⟩
theorem cv_7_89 : x_CV RX7 89 m2_closeDownTo 1 := ⟨xw_988, xw_989, xw_990, by decide +kernel, ok2_closeDownTo⟩
theorem cv_7_95 : x_CV RX7 95 m7_doAct 5 := ⟨xw_973, xw_975, (x_in 31 (by decide +kernel) rfl), by decide +kernel, ok7_doAct⟩
theorem cv_9_33 : x_CV RX9 33 m9_factsOfWorld 2 := ⟨xw_1015, xw_1017, (x_in 34 (by decide +kernel) rfl), by decide +kernel, ok9_factsOfWorld⟩
theorem cv_9_37 : x_CV RX9 37 m2_foundAtPoint 1 := ⟨xw_1019, xw_858, xw_859, by decide +kernel, ok2_foundAtPoint⟩
theorem cv_9_42 : x_CV RX9 42 m2_foundSet 0 := ⟨xw_1033, xw_1034, xw_1035, by decide +kernel, ok2_foundSet⟩
theorem cv_9_46 : x_CV RX9 46 m2_setFound 1 := ⟨xw_1037, xw_1038, xw_1039, by decide +kernel, ok2_setFound⟩
theorem cv_9_50 : x_CV RX9 50 m7_callOutermost 3 := ⟨xw_1041, xw_951, xw_952, by decide +kernel, ok7_callOutermost⟩
theorem cv_9_56 : x_CV RX9 56 m2_settled 1 := ⟨xw_1042, xw_866, xw_867, by decide +kernel, ok2_settled⟩
theorem cv_10_20 : x_CV RX10 20 m10_nextToken 0 := ⟨xw_595, xw_596, xw_597, by decide +kernel, ok10_nextToken⟩
theorem cv_10_33 : x_CV RX10 33 m10_endOfRun 2 := ⟨xw_602, xw_604, (x_in 2 (by decide +kernel) rfl), by decide +kernel, ok10_endOfRun⟩
theorem cv_10_37 : x_CV RX10 37 m10_valueNumber 0 := ⟨xw_606, xw_608, (x_in 3 (by decide +kernel) rfl), by decide +kernel, ok10_valueNumber⟩
theorem cv_10_48 : x_CV RX10 48 m10_matches 2 := ⟨xw_671, xw_673, (x_in 5 (by decide +kernel) rfl), by decide +kernel, ok10_matches⟩
theorem cv_11_102 : x_CV RX11 102 m11_withoutFinding 1 := ⟨xw_523, xw_525, (x_in 1 (by decide +kernel) rfl), by decide +kernel, ok11_withoutFinding⟩
theorem cv_11_105 : x_CV RX11 105 m8_isMissing 1 := ⟨xw_531, xw_532, xw_533, by decide +kernel, ok8_isMissing⟩
theorem cv_11_108 : x_CV RX11 108 m8_hasPlaces 3 := ⟨xw_535, xw_536, xw_537, by decide +kernel, ok8_hasPlaces⟩
theorem cv_11_112 : x_CV RX11 112 m8_put 3 := ⟨xw_539, xw_540, xw_541, by decide +kernel, ok8_put⟩
theorem cv_11_116 : x_CV RX11 116 m8_haveOneLane 2 := ⟨xw_547, xw_548, xw_549, by decide +kernel, ok8_haveOneLane⟩
theorem cv_11_120 : x_CV RX11 120 m8_move 5 := ⟨xw_551, xw_552, xw_553, by decide +kernel, ok8_move⟩
theorem cv_11_124 : x_CV RX11 124 m8_lose 1 := ⟨xw_562, xw_563, xw_564, by decide +kernel, ok8_lose⟩
theorem cv_11_127 : x_CV RX11 127 m10_hasRoom 1 := ⟨xw_570, xw_571, xw_572, by decide +kernel, ok10_hasRoom⟩
theorem cv_11_131 : x_CV RX11 131 m10_append 2 := ⟨xw_575, xw_576, xw_577, by decide +kernel, ok10_append⟩
theorem cv_11_135 : x_CV RX11 135 m5_readTape 0 := ⟨xw_583, xw_584, xw_585, by decide +kernel, ok5_readTape⟩
theorem cv_11_144 : x_CV RX11 144 m5_latestFault 0 := ⟨xw_805, xw_806, xw_807, by decide +kernel, ok5_latestFault⟩
theorem cv_11_147 : x_CV RX11 147 m4_isLayer 1 := ⟨xw_813, xw_780, xw_781, by decide +kernel, ok4_isLayer⟩
theorem cv_11_168 : x_CV RX11 168 m2_isAwake 1 := ⟨xw_814, xw_815, xw_816, by decide +kernel, ok2_isAwake⟩
theorem cv_11_171 : x_CV RX11 171 m2_openOf 1 := ⟨xw_826, xw_827, xw_828, by decide +kernel, ok2_openOf⟩
theorem cv_11_177 : x_CV RX11 177 m2_tell 2 := ⟨xw_837, xw_838, xw_839, by decide +kernel, ok2_tell⟩
theorem cv_11_181 : x_CV RX11 181 m8_item 2 := ⟨xw_845, xw_846, xw_847, by decide +kernel, ok8_item⟩
theorem cv_11_184 : x_CV RX11 184 m2_takePoint 0 := ⟨xw_853, xw_854, xw_855, by decide +kernel, ok2_takePoint⟩
theorem cv_11_187 : x_CV RX11 187 m3_isWoken 0 := ⟨xw_873, xw_784, xw_785, by decide +kernel, ok3_isWoken⟩
theorem cv_11_191 : x_CV RX11 191 m4_isThing 1 := ⟨xw_874, xw_875, xw_876, by decide +kernel, ok4_isThing⟩
theorem cv_11_195 : x_CV RX11 195 m2_openWaking 2 := ⟨xw_879, xw_880, xw_881, by decide +kernel, ok2_openWaking⟩
theorem cv_11_198 : x_CV RX11 198 m2_openCount 0 := ⟨xw_883, xw_884, xw_885, by decide +kernel, ok2_openCount⟩
theorem cv_11_201 : x_CV RX11 201 m2_closeLatest 1 := ⟨xw_891, xw_892, xw_893, by decide +kernel, ok2_closeLatest⟩
theorem cv_11_208 : x_CV RX11 208 m6_fill 3 := ⟨xw_903, xw_904, xw_905, by decide +kernel, ok6_fill⟩
theorem cv_11_212 : x_CV RX11 212 m11_isCall 3 := ⟨xw_945, xw_947, (x_in 26 (by decide +kernel) rfl), by decide +kernel, ok11_isCall⟩
theorem cv_11_215 : x_CV RX11 215 m7_callOutermost 3 := ⟨xw_950, xw_951, xw_952, by decide +kernel, ok7_callOutermost⟩
theorem cv_11_218 : x_CV RX11 218 m7_begunCount 0 := ⟨xw_996, xw_997, xw_998, by decide +kernel, ok7_begunCount⟩
theorem cv_11_221 : x_CV RX11 221 m7_begunAt 1 := ⟨xw_1000, xw_1001, xw_1002, by decide +kernel, ok7_begunAt⟩
theorem cv_11_227 : x_CV RX11 227 m9_gather 1 := ⟨xw_1011, xw_1012, xw_1013, by decide +kernel, ok9_gather⟩
theorem cv_11_230 : x_CV RX11 230 m9_gatheredAt 1 := ⟨xw_1020, xw_1021, xw_1022, by decide +kernel, ok9_gatheredAt⟩
theorem cv_11_233 : x_CV RX11 233 m9_changesNothing 4 := ⟨xw_1029, xw_1030, xw_1031, by decide +kernel, ok9_changesNothing⟩
theorem cv_11_250 : x_CV RX11 250 m0_clearTrace 0 := ⟨xw_1069, xw_1070, xw_1071, by decide +kernel, ok0_clearTrace⟩
theorem cv_11_253 : x_CV RX11 253 m0_sizeOf 1 := ⟨xw_1073, xw_1074, xw_1075, by decide +kernel, ok0_sizeOf⟩
theorem cv_11_256 : x_CV RX11 256 m0_markOf 1 := ⟨xw_1131, xw_1100, xw_1101, by decide +kernel, ok0_markOf⟩
theorem cv_11_259 : x_CV RX11 259 m0_tracedAt 1 := ⟨xw_1136, xw_1137, xw_1138, by decide +kernel, ok0_tracedAt⟩
theorem cv_11_262 : x_CV RX11 262 m8_laidCount 0 := ⟨xw_1145, xw_1146, xw_1147, by decide +kernel, ok8_laidCount⟩
theorem cv_11_274 : x_CV RX11 274 m2_awakeSet 0 := ⟨xw_1149, xw_819, xw_820, by decide +kernel, ok2_awakeSet⟩
theorem cv_11_282 : x_CV RX11 282 m10_length 0 := ⟨xw_1151, xw_1152, xw_1153, by decide +kernel, ok10_length⟩
theorem cv_11_94 : x_CV RX11 94 m11_finding 1 := ⟨xw_514, xw_516, (x_in 0 (by decide +kernel) rfl), by decide +kernel, ok11_finding⟩
theorem cv_11_98 : x_CV RX11 98 m8_lay 3 := ⟨xw_519, xw_520, xw_521, by decide +kernel, ok8_lay⟩
theorem cv_12_152 : x_CV RX12 152 m12_finding 1 := ⟨xw_1395, xw_1397, (x_in 44 (by decide +kernel) rfl), by decide +kernel, ok12_finding⟩
theorem cv_12_171 : x_CV RX12 171 m12_byteAt 1 := ⟨xw_1427, xw_1429, (x_in 46 (by decide +kernel) rfl), by decide +kernel, ok12_byteAt⟩
theorem cv_12_198 : x_CV RX12 198 m12_bad 1 := ⟨xw_1449, xw_1451, (x_in 48 (by decide +kernel) rfl), by decide +kernel, ok12_bad⟩
theorem cv_12_202 : x_CV RX12 202 m12_step 0 := ⟨xw_1423, xw_1425, (x_in 45 (by decide +kernel) rfl), by decide +kernel, ok12_step⟩
theorem cv_12_205 : x_CV RX12 205 m12_must 1 := ⟨xw_1453, xw_1455, (x_in 49 (by decide +kernel) rfl), by decide +kernel, ok12_must⟩
theorem cv_12_209 : x_CV RX12 209 m12_word 0 := ⟨xw_1441, xw_1443, (x_in 47 (by decide +kernel) rfl), by decide +kernel, ok12_word⟩
theorem cv_12_248 : x_CV RX12 248 m12_numberTo 1 := ⟨xw_1462, xw_1464, (x_in 51 (by decide +kernel) rfl), by decide +kernel, ok12_numberTo⟩
theorem cv_12_257 : x_CV RX12 257 m12_sortOfWord 0 := ⟨xw_1474, xw_1476, (x_in 54 (by decide +kernel) rfl), by decide +kernel, ok12_sortOfWord⟩
theorem cv_12_261 : x_CV RX12 261 m12_is 1 := ⟨xw_1481, xw_1483, (x_in 55 (by decide +kernel) rfl), by decide +kernel, ok12_is⟩
theorem cv_12_268 : x_CV RX12 268 m12_actOfWord 1 := ⟨xw_1500, xw_1502, (x_in 58 (by decide +kernel) rfl), by decide +kernel, ok12_actOfWord⟩
theorem cv_12_276 : x_CV RX12 276 m12_wayOfWord 0 := ⟨xw_1492, xw_1494, (x_in 57 (by decide +kernel) rfl), by decide +kernel, ok12_wayOfWord⟩
theorem cv_12_279 : x_CV RX12 279 m12_readAct 1 := ⟨xw_1511, xw_1513, (x_in 59 (by decide +kernel) rfl), by decide +kernel, ok12_readAct⟩
theorem cv_12_300 : x_CV RX12 300 m12_readKind 0 := ⟨xw_1457, xw_1459, (x_in 50 (by decide +kernel) rfl), by decide +kernel, ok12_readKind⟩
theorem cv_12_303 : x_CV RX12 303 m12_readThing 0 := ⟨xw_1466, xw_1468, (x_in 52 (by decide +kernel) rfl), by decide +kernel, ok12_readThing⟩
theorem cv_12_306 : x_CV RX12 306 m12_readLayer 0 := ⟨xw_1470, xw_1472, (x_in 53 (by decide +kernel) rfl), by decide +kernel, ok12_readLayer⟩
theorem cv_12_309 : x_CV RX12 309 m12_readBody 0 := ⟨xw_1487, xw_1489, (x_in 56 (by decide +kernel) rfl), by decide +kernel, ok12_readBody⟩
theorem cv_12_322 : x_CV RX12 322 m12_openOf 1 := ⟨xw_1533, xw_1535, (x_in 62 (by decide +kernel) rfl), by decide +kernel, ok12_openOf⟩
theorem cv_12_325 : x_CV RX12 325 m12_isAwake 1 := ⟨xw_1529, xw_1531, (x_in 61 (by decide +kernel) rfl), by decide +kernel, ok12_isAwake⟩
theorem cv_12_328 : x_CV RX12 328 m12_hasNeeds 1 := ⟨xw_1560, xw_1562, (x_in 65 (by decide +kernel) rfl), by decide +kernel, ok12_hasNeeds⟩
theorem cv_12_331 : x_CV RX12 331 m12_holdsTest 1 := ⟨xw_1556, xw_1558, (x_in 64 (by decide +kernel) rfl), by decide +kernel, ok12_holdsTest⟩
theorem cv_12_334 : x_CV RX12 334 m12_lose 0 := ⟨xw_1564, xw_1566, (x_in 66 (by decide +kernel) rfl), by decide +kernel, ok12_lose⟩
theorem cv_12_337 : x_CV RX12 337 m12_isLayer 1 := ⟨xw_1524, xw_1526, (x_in 60 (by decide +kernel) rfl), by decide +kernel, ok12_isLayer⟩
theorem cv_12_348 : x_CV RX12 348 m12_find 0 := ⟨xw_1552, xw_1554, (x_in 63 (by decide +kernel) rfl), by decide +kernel, ok12_find⟩
theorem cv_12_351 : x_CV RX12 351 m12_isThing 1 := ⟨xw_1572, xw_1574, (x_in 67 (by decide +kernel) rfl), by decide +kernel, ok12_isThing⟩
theorem cv_12_354 : x_CV RX12 354 m12_close 1 := ⟨xw_1580, xw_1582, (x_in 68 (by decide +kernel) rfl), by decide +kernel, ok12_close⟩
theorem cv_12_358 : x_CV RX12 358 m12_latestOf 2 := ⟨xw_1597, xw_1599, (x_in 71 (by decide +kernel) rfl), by decide +kernel, ok12_latestOf⟩
theorem cv_12_362 : x_CV RX12 362 m12_isAwakeFor 2 := ⟨xw_1593, xw_1595, (x_in 70 (by decide +kernel) rfl), by decide +kernel, ok12_isAwakeFor⟩
theorem cv_12_366 : x_CV RX12 366 m12_isAhead 3 := ⟨xw_1601, xw_1603, (x_in 72 (by decide +kernel) rfl), by decide +kernel, ok12_isAhead⟩
theorem cv_12_370 : x_CV RX12 370 m12_lay 4 := ⟨xw_1605, xw_1607, (x_in 73 (by decide +kernel) rfl), by decide +kernel, ok12_lay⟩
theorem cv_12_374 : x_CV RX12 374 m12_layRow 3 := ⟨xw_1589, xw_1591, (x_in 69 (by decide +kernel) rfl), by decide +kernel, ok12_layRow⟩
theorem cv_12_403 : x_CV RX12 403 m12_topBody 0 := ⟨xw_1626, xw_1628, (x_in 77 (by decide +kernel) rfl), by decide +kernel, ok12_topBody⟩
theorem cv_12_406 : x_CV RX12 406 m12_goNext 0 := ⟨xw_1638, xw_1640, (x_in 80 (by decide +kernel) rfl), by decide +kernel, ok12_goNext⟩
theorem cv_12_409 : x_CV RX12 409 m12_over 1 := ⟨xw_1630, xw_1632, (x_in 78 (by decide +kernel) rfl), by decide +kernel, ok12_over⟩
theorem cv_12_413 : x_CV RX12 413 m12_comeBack 0 := ⟨xw_1622, xw_1624, (x_in 76 (by decide +kernel) rfl), by decide +kernel, ok12_comeBack⟩
theorem cv_12_417 : x_CV RX12 417 m12_begin 0 := ⟨xw_1634, xw_1636, (x_in 79 (by decide +kernel) rfl), by decide +kernel, ok12_begin⟩
theorem cv_12_420 : x_CV RX12 420 m12_doActs 0 := ⟨xw_1642, xw_1644, (x_in 81 (by decide +kernel) rfl), by decide +kernel, ok12_doActs⟩
theorem cv_12_426 : x_CV RX12 426 m12_isNumber 1 := ⟨xw_1613, xw_1615, (x_in 74 (by decide +kernel) rfl), by decide +kernel, ok12_isNumber⟩
theorem cv_12_429 : x_CV RX12 429 m12_outermost 3 := ⟨xw_1618, xw_1620, (x_in 75 (by decide +kernel) rfl), by decide +kernel, ok12_outermost⟩
theorem cv_12_441 : x_CV RX12 441 m12_keep 0 := ⟨xw_1657, xw_1659, (x_in 82 (by decide +kernel) rfl), by decide +kernel, ok12_keep⟩
theorem cv_12_447 : x_CV RX12 447 m12_makeWorld 2 := ⟨xw_1664, xw_1666, (x_in 83 (by decide +kernel) rfl), by decide +kernel, ok12_makeWorld⟩
theorem cv_12_451 : x_CV RX12 451 m12_bringBack 0 := ⟨xw_1668, xw_1670, (x_in 84 (by decide +kernel) rfl), by decide +kernel, ok12_bringBack⟩
theorem cv_12_454 : x_CV RX12 454 m12_kindOf 1 := ⟨xw_1680, xw_1682, (x_in 85 (by decide +kernel) rfl), by decide +kernel, ok12_kindOf⟩
theorem cv_12_463 : x_CV RX12 463 m12_leaves 1 := ⟨xw_1699, xw_1701, (x_in 87 (by decide +kernel) rfl), by decide +kernel, ok12_leaves⟩
theorem cv_12_466 : x_CV RX12 466 m12_sizeOf 2 := ⟨xw_1703, xw_1705, (x_in 88 (by decide +kernel) rfl), by decide +kernel, ok12_sizeOf⟩
theorem cv_12_469 : x_CV RX12 469 m12_markOf 2 := ⟨xw_1695, xw_1697, (x_in 86 (by decide +kernel) rfl), by decide +kernel, ok12_markOf⟩
theorem cv_12_475 : x_CV RX12 475 m12_askedSize 2 := ⟨xw_1707, xw_1709, (x_in 89 (by decide +kernel) rfl), by decide +kernel, ok12_askedSize⟩
theorem ff_0_11 : x_FF RX0 11 0 2 RX0 TX0 4 := ⟨rfl, by decide, cin_0, by decide, xw_458, rfl⟩
theorem ff_0_15 : x_FF RX0 15 0 0 RX0 TX0 4 := ⟨rfl, by decide, cin_0, by decide, xw_456, rfl⟩
theorem ff_0_19 : x_FF RX0 19 0 1 RX0 TX0 4 := ⟨rfl, by decide, cin_0, by decide, xw_457, rfl⟩
theorem ff_0_23 : x_FF RX0 23 3 0 RX3 TX3 8 := ⟨rfl, by decide, cin_3, by decide, xw_183, rfl⟩
theorem ff_0_29 : x_FF RX0 29 3 2 RX3 TX3 8 := ⟨rfl, by decide, cin_3, by decide, xw_192, rfl⟩
theorem ff_0_35 : x_FF RX0 35 0 3 RX0 TX0 4 := ⟨rfl, by decide, cin_0, by decide, xw_459, rfl⟩
theorem ff_0_39 : x_FF RX0 39 4 3 RX4 TX4 13 := ⟨rfl, by decide, cin_4, by decide, xw_270, rfl⟩
theorem ff_0_78 : x_FF RX0 78 3 1 RX3 TX3 8 := ⟨rfl, by decide, cin_3, by decide, xw_190, rfl⟩
theorem ff_1_13 : x_FF RX1 13 1 1 RX1 TX1 8 := ⟨rfl, by decide, cin_1, by decide, xw_228, rfl⟩
theorem ff_1_16 : x_FF RX1 16 1 2 RX1 TX1 8 := ⟨rfl, by decide, cin_1, by decide, xw_230, rfl⟩
theorem ff_1_19 : x_FF RX1 19 1 4 RX1 TX1 8 := ⟨rfl, by decide, cin_1, by decide, xw_235, rfl⟩
theorem ff_1_23 : x_FF RX1 23 1 6 RX1 TX1 8 := ⟨rfl, by decide, cin_1, by decide, xw_242, rfl⟩
theorem ff_1_26 : x_FF RX1 26 1 7 RX1 TX1 8 := ⟨rfl, by decide, cin_1, by decide, xw_243, rfl⟩
theorem ff_1_29 : x_FF RX1 29 1 5 RX1 TX1 8 := ⟨rfl, by decide, cin_1, by decide, xw_238, rfl⟩
theorem ff_1_32 : x_FF RX1 32 1 3 RX1 TX1 8 := ⟨rfl, by decide, cin_1, by decide, xw_232, rfl⟩
theorem ff_1_9 : x_FF RX1 9 1 0 RX1 TX1 8 := ⟨rfl, by decide, cin_1, by decide, xw_226, rfl⟩
theorem ff_2_11 : x_FF RX2 11 2 1 RX2 TX2 6 := ⟨rfl, by decide, cin_2, by decide, xw_353, rfl⟩
theorem ff_2_15 : x_FF RX2 15 2 2 RX2 TX2 6 := ⟨rfl, by decide, cin_2, by decide, xw_354, rfl⟩
theorem ff_2_18 : x_FF RX2 18 2 3 RX2 TX2 6 := ⟨rfl, by decide, cin_2, by decide, xw_355, rfl⟩
theorem ff_2_21 : x_FF RX2 21 2 0 RX2 TX2 6 := ⟨rfl, by decide, cin_2, by decide, xw_352, rfl⟩
theorem ff_2_25 : x_FF RX2 25 2 4 RX2 TX2 6 := ⟨rfl, by decide, cin_2, by decide, xw_356, rfl⟩
theorem ff_2_29 : x_FF RX2 29 2 5 RX2 TX2 6 := ⟨rfl, by decide, cin_2, by decide, xw_357, rfl⟩
theorem ff_2_44 : x_FF RX2 44 4 7 RX4 TX4 13 := ⟨rfl, by decide, cin_4, by decide, xw_287, rfl⟩
theorem ff_2_49 : x_FF RX2 49 4 3 RX4 TX4 13 := ⟨rfl, by decide, cin_4, by decide, xw_273, rfl⟩
theorem ff_2_53 : x_FF RX2 53 3 0 RX3 TX3 8 := ⟨rfl, by decide, cin_3, by decide, xw_186, rfl⟩
theorem ff_2_66 : x_FF RX2 66 3 2 RX3 TX3 8 := ⟨rfl, by decide, cin_3, by decide, xw_195, rfl⟩
theorem ff_2_69 : x_FF RX2 69 3 3 RX3 TX3 8 := ⟨rfl, by decide, cin_3, by decide, xw_199, rfl⟩
theorem ff_3_13 : x_FF RX3 13 3 1 RX3 TX3 8 := ⟨rfl, by decide, cin_3, by decide, xw_187, rfl⟩
theorem ff_3_16 : x_FF RX3 16 3 2 RX3 TX3 8 := ⟨rfl, by decide, cin_3, by decide, xw_191, rfl⟩
theorem ff_3_19 : x_FF RX3 19 3 3 RX3 TX3 8 := ⟨rfl, by decide, cin_3, by decide, xw_196, rfl⟩
theorem ff_3_22 : x_FF RX3 22 3 4 RX3 TX3 8 := ⟨rfl, by decide, cin_3, by decide, xw_200, rfl⟩
theorem ff_3_26 : x_FF RX3 26 3 5 RX3 TX3 8 := ⟨rfl, by decide, cin_3, by decide, xw_201, rfl⟩
theorem ff_3_29 : x_FF RX3 29 3 6 RX3 TX3 8 := ⟨rfl, by decide, cin_3, by decide, xw_202, rfl⟩
theorem ff_3_33 : x_FF RX3 33 3 7 RX3 TX3 8 := ⟨rfl, by decide, cin_3, by decide, xw_203, rfl⟩
theorem ff_3_7 : x_FF RX3 7 3 0 RX3 TX3 8 := ⟨rfl, by decide, cin_3, by decide, xw_181, rfl⟩
theorem ff_4_13 : x_FF RX4 13 4 1 RX4 TX4 13 := ⟨rfl, by decide, cin_4, by decide, xw_263, rfl⟩
theorem ff_4_16 : x_FF RX4 16 4 2 RX4 TX4 13 := ⟨rfl, by decide, cin_4, by decide, xw_265, rfl⟩
theorem ff_4_27 : x_FF RX4 27 4 4 RX4 TX4 13 := ⟨rfl, by decide, cin_4, by decide, xw_274, rfl⟩
theorem ff_4_33 : x_FF RX4 33 4 6 RX4 TX4 13 := ⟨rfl, by decide, cin_4, by decide, xw_281, rfl⟩
theorem ff_4_37 : x_FF RX4 37 4 7 RX4 TX4 13 := ⟨rfl, by decide, cin_4, by decide, xw_285, rfl⟩
theorem ff_4_40 : x_FF RX4 40 4 5 RX4 TX4 13 := ⟨rfl, by decide, cin_4, by decide, xw_278, rfl⟩
theorem ff_4_43 : x_FF RX4 43 4 9 RX4 TX4 13 := ⟨rfl, by decide, cin_4, by decide, xw_293, rfl⟩
theorem ff_4_46 : x_FF RX4 46 4 10 RX4 TX4 13 := ⟨rfl, by decide, cin_4, by decide, xw_294, rfl⟩
theorem ff_4_49 : x_FF RX4 49 4 11 RX4 TX4 13 := ⟨rfl, by decide, cin_4, by decide, xw_295, rfl⟩
theorem ff_4_52 : x_FF RX4 52 4 8 RX4 TX4 13 := ⟨rfl, by decide, cin_4, by decide, xw_290, rfl⟩
theorem ff_4_55 : x_FF RX4 55 4 12 RX4 TX4 13 := ⟨rfl, by decide, cin_4, by decide, xw_296, rfl⟩
theorem ff_4_58 : x_FF RX4 58 1 4 RX1 TX1 8 := ⟨rfl, by decide, cin_1, by decide, xw_237, rfl⟩
theorem ff_4_9 : x_FF RX4 9 4 0 RX4 TX4 13 := ⟨rfl, by decide, cin_4, by decide, xw_261, rfl⟩
theorem ff_5_102 : x_FF RX5 102 4 6 RX4 TX4 13 := ⟨rfl, by decide, cin_4, by decide, xw_282, rfl⟩
theorem ff_5_108 : x_FF RX5 108 4 7 RX4 TX4 13 := ⟨rfl, by decide, cin_4, by decide, xw_286, rfl⟩
theorem ff_5_111 : x_FF RX5 111 4 3 RX4 TX4 13 := ⟨rfl, by decide, cin_4, by decide, xw_269, rfl⟩
theorem ff_5_147 : x_FF RX5 147 3 2 RX3 TX3 8 := ⟨rfl, by decide, cin_3, by decide, xw_193, rfl⟩
theorem ff_5_15 : x_FF RX5 15 5 1 RX5 TX5 5 := ⟨rfl, by decide, cin_5, by decide, xw_331, rfl⟩
theorem ff_5_152 : x_FF RX5 152 3 3 RX3 TX3 8 := ⟨rfl, by decide, cin_3, by decide, xw_198, rfl⟩
theorem ff_5_155 : x_FF RX5 155 4 8 RX4 TX4 13 := ⟨rfl, by decide, cin_4, by decide, xw_292, rfl⟩
theorem ff_5_158 : x_FF RX5 158 4 4 RX4 TX4 13 := ⟨rfl, by decide, cin_4, by decide, xw_277, rfl⟩
theorem ff_5_179 : x_FF RX5 179 1 5 RX1 TX1 8 := ⟨rfl, by decide, cin_1, by decide, xw_241, rfl⟩
theorem ff_5_182 : x_FF RX5 182 1 3 RX1 TX1 8 := ⟨rfl, by decide, cin_1, by decide, xw_234, rfl⟩
theorem ff_5_19 : x_FF RX5 19 5 4 RX5 TX5 5 := ⟨rfl, by decide, cin_5, by decide, xw_334, rfl⟩
theorem ff_5_23 : x_FF RX5 23 5 2 RX5 TX5 5 := ⟨rfl, by decide, cin_5, by decide, xw_332, rfl⟩
theorem ff_5_50 : x_FF RX5 50 5 3 RX5 TX5 5 := ⟨rfl, by decide, cin_5, by decide, xw_333, rfl⟩
theorem ff_5_75 : x_FF RX5 75 4 5 RX4 TX4 13 := ⟨rfl, by decide, cin_4, by decide, xw_279, rfl⟩
theorem ff_5_9 : x_FF RX5 9 5 0 RX5 TX5 5 := ⟨rfl, by decide, cin_5, by decide, xw_330, rfl⟩
theorem ff_6_100 : x_FF RX6 100 1 5 RX1 TX1 8 := ⟨rfl, by decide, cin_1, by decide, xw_240, rfl⟩
theorem ff_6_15 : x_FF RX6 15 6 3 RX6 TX6 5 := ⟨rfl, by decide, cin_6, by decide, xw_380, rfl⟩
theorem ff_6_18 : x_FF RX6 18 6 0 RX6 TX6 5 := ⟨rfl, by decide, cin_6, by decide, xw_377, rfl⟩
theorem ff_6_22 : x_FF RX6 22 6 1 RX6 TX6 5 := ⟨rfl, by decide, cin_6, by decide, xw_378, rfl⟩
theorem ff_6_26 : x_FF RX6 26 4 1 RX4 TX4 13 := ⟨rfl, by decide, cin_4, by decide, xw_264, rfl⟩
theorem ff_6_33 : x_FF RX6 33 6 4 RX6 TX6 5 := ⟨rfl, by decide, cin_6, by decide, xw_381, rfl⟩
theorem ff_6_37 : x_FF RX6 37 4 7 RX4 TX4 13 := ⟨rfl, by decide, cin_4, by decide, xw_284, rfl⟩
theorem ff_6_54 : x_FF RX6 54 4 3 RX4 TX4 13 := ⟨rfl, by decide, cin_4, by decide, xw_268, rfl⟩
theorem ff_6_69 : x_FF RX6 69 3 1 RX3 TX3 8 := ⟨rfl, by decide, cin_3, by decide, xw_188, rfl⟩
theorem ff_6_72 : x_FF RX6 72 3 0 RX3 TX3 8 := ⟨rfl, by decide, cin_3, by decide, xw_182, rfl⟩
theorem ff_6_79 : x_FF RX6 79 4 8 RX4 TX4 13 := ⟨rfl, by decide, cin_4, by decide, xw_289, rfl⟩
theorem ff_6_82 : x_FF RX6 82 4 4 RX4 TX4 13 := ⟨rfl, by decide, cin_4, by decide, xw_275, rfl⟩
theorem ff_6_9 : x_FF RX6 9 6 2 RX6 TX6 5 := ⟨rfl, by decide, cin_6, by decide, xw_379, rfl⟩
theorem ff_6_90 : x_FF RX6 90 4 0 RX4 TX4 13 := ⟨rfl, by decide, cin_4, by decide, xw_262, rfl⟩
theorem ff_6_97 : x_FF RX6 97 1 4 RX1 TX1 8 := ⟨rfl, by decide, cin_1, by decide, xw_236, rfl⟩
theorem ff_7_102 : x_FF RX7 102 1 0 RX1 TX1 8 := ⟨rfl, by decide, cin_1, by decide, xw_227, rfl⟩
theorem ff_7_106 : x_FF RX7 106 4 2 RX4 TX4 13 := ⟨rfl, by decide, cin_4, by decide, xw_266, rfl⟩
theorem ff_7_109 : x_FF RX7 109 1 2 RX1 TX1 8 := ⟨rfl, by decide, cin_1, by decide, xw_231, rfl⟩
theorem ff_7_120 : x_FF RX7 120 4 3 RX4 TX4 13 := ⟨rfl, by decide, cin_4, by decide, xw_272, rfl⟩
theorem ff_7_124 : x_FF RX7 124 3 0 RX3 TX3 8 := ⟨rfl, by decide, cin_3, by decide, xw_185, rfl⟩
theorem ff_7_15 : x_FF RX7 15 7 3 RX7 TX7 9 := ⟨rfl, by decide, cin_7, by decide, xw_403, rfl⟩
theorem ff_7_18 : x_FF RX7 18 7 4 RX7 TX7 9 := ⟨rfl, by decide, cin_7, by decide, xw_404, rfl⟩
theorem ff_7_22 : x_FF RX7 22 7 5 RX7 TX7 9 := ⟨rfl, by decide, cin_7, by decide, xw_405, rfl⟩
theorem ff_7_25 : x_FF RX7 25 7 6 RX7 TX7 9 := ⟨rfl, by decide, cin_7, by decide, xw_406, rfl⟩
theorem ff_7_28 : x_FF RX7 28 7 0 RX7 TX7 9 := ⟨rfl, by decide, cin_7, by decide, xw_400, rfl⟩
theorem ff_7_32 : x_FF RX7 32 7 1 RX7 TX7 9 := ⟨rfl, by decide, cin_7, by decide, xw_401, rfl⟩
theorem ff_7_36 : x_FF RX7 36 7 2 RX7 TX7 9 := ⟨rfl, by decide, cin_7, by decide, xw_402, rfl⟩
theorem ff_7_40 : x_FF RX7 40 7 7 RX7 TX7 9 := ⟨rfl, by decide, cin_7, by decide, xw_407, rfl⟩
theorem ff_7_45 : x_FF RX7 45 7 8 RX7 TX7 9 := ⟨rfl, by decide, cin_7, by decide, xw_408, rfl⟩
theorem ff_7_74 : x_FF RX7 74 4 4 RX4 TX4 13 := ⟨rfl, by decide, cin_4, by decide, xw_276, rfl⟩
theorem ff_7_78 : x_FF RX7 78 1 5 RX1 TX1 8 := ⟨rfl, by decide, cin_1, by decide, xw_239, rfl⟩
theorem ff_7_92 : x_FF RX7 92 1 3 RX1 TX1 8 := ⟨rfl, by decide, cin_1, by decide, xw_233, rfl⟩
theorem ff_7_99 : x_FF RX7 99 1 1 RX1 TX1 8 := ⟨rfl, by decide, cin_1, by decide, xw_229, rfl⟩
theorem ff_8_13 : x_FF RX8 13 8 1 RX8 TX8 4 := ⟨rfl, by decide, cin_8, by decide, xw_127, rfl⟩
theorem ff_8_17 : x_FF RX8 17 8 2 RX8 TX8 4 := ⟨rfl, by decide, cin_8, by decide, xw_128, rfl⟩
theorem ff_8_22 : x_FF RX8 22 8 3 RX8 TX8 4 := ⟨rfl, by decide, cin_8, by decide, xw_129, rfl⟩
theorem ff_8_9 : x_FF RX8 9 8 0 RX8 TX8 4 := ⟨rfl, by decide, cin_8, by decide, xw_126, rfl⟩
theorem ff_9_11 : x_FF RX9 11 9 3 RX9 TX9 5 := ⟨rfl, by decide, cin_9, by decide, xw_437, rfl⟩
theorem ff_9_17 : x_FF RX9 17 9 4 RX9 TX9 5 := ⟨rfl, by decide, cin_9, by decide, xw_438, rfl⟩
theorem ff_9_25 : x_FF RX9 25 9 1 RX9 TX9 5 := ⟨rfl, by decide, cin_9, by decide, xw_435, rfl⟩
theorem ff_9_29 : x_FF RX9 29 9 2 RX9 TX9 5 := ⟨rfl, by decide, cin_9, by decide, xw_436, rfl⟩
theorem ff_10_13 : x_FF RX10 13 10 1 RX10 TX10 6 := ⟨rfl, by decide, cin_10, by decide, xw_148, rfl⟩
theorem ff_10_17 : x_FF RX10 17 10 4 RX10 TX10 6 := ⟨rfl, by decide, cin_10, by decide, xw_151, rfl⟩
theorem ff_10_23 : x_FF RX10 23 10 3 RX10 TX10 6 := ⟨rfl, by decide, cin_10, by decide, xw_150, rfl⟩
theorem ff_10_26 : x_FF RX10 26 10 2 RX10 TX10 6 := ⟨rfl, by decide, cin_10, by decide, xw_149, rfl⟩
theorem ff_10_40 : x_FF RX10 40 10 5 RX10 TX10 6 := ⟨rfl, by decide, cin_10, by decide, xw_152, rfl⟩
theorem ff_10_9 : x_FF RX10 9 10 0 RX10 TX10 6 := ⟨rfl, by decide, cin_10, by decide, xw_147, rfl⟩
theorem ff_11_10 : x_FF RX11 10 11 0 RX11 TX11 11 := ⟨rfl, by decide, cin_11, by decide, xw_469, rfl⟩
theorem ff_11_139 : x_FF RX11 139 4 8 RX4 TX4 13 := ⟨rfl, by decide, cin_4, by decide, xw_291, rfl⟩
theorem ff_11_150 : x_FF RX11 150 4 3 RX4 TX4 13 := ⟨rfl, by decide, cin_4, by decide, xw_271, rfl⟩
theorem ff_11_154 : x_FF RX11 154 3 0 RX3 TX3 8 := ⟨rfl, by decide, cin_3, by decide, xw_184, rfl⟩
theorem ff_11_159 : x_FF RX11 159 3 1 RX3 TX3 8 := ⟨rfl, by decide, cin_3, by decide, xw_189, rfl⟩
theorem ff_11_162 : x_FF RX11 162 3 2 RX3 TX3 8 := ⟨rfl, by decide, cin_3, by decide, xw_194, rfl⟩
theorem ff_11_165 : x_FF RX11 165 3 3 RX3 TX3 8 := ⟨rfl, by decide, cin_3, by decide, xw_197, rfl⟩
theorem ff_11_19 : x_FF RX11 19 11 1 RX11 TX11 11 := ⟨rfl, by decide, cin_11, by decide, xw_470, rfl⟩
theorem ff_11_26 : x_FF RX11 26 11 2 RX11 TX11 11 := ⟨rfl, by decide, cin_11, by decide, xw_471, rfl⟩
theorem ff_11_265 : x_FF RX11 265 4 5 RX4 TX4 13 := ⟨rfl, by decide, cin_4, by decide, xw_280, rfl⟩
theorem ff_11_268 : x_FF RX11 268 4 6 RX4 TX4 13 := ⟨rfl, by decide, cin_4, by decide, xw_283, rfl⟩
theorem ff_11_271 : x_FF RX11 271 4 7 RX4 TX4 13 := ⟨rfl, by decide, cin_4, by decide, xw_288, rfl⟩
theorem ff_11_285 : x_FF RX11 285 11 10 RX11 TX11 11 := ⟨rfl, by decide, cin_11, by decide, xw_479, rfl⟩
theorem ff_11_35 : x_FF RX11 35 11 3 RX11 TX11 11 := ⟨rfl, by decide, cin_11, by decide, xw_472, rfl⟩
theorem ff_11_44 : x_FF RX11 44 11 4 RX11 TX11 11 := ⟨rfl, by decide, cin_11, by decide, xw_473, rfl⟩
theorem ff_11_53 : x_FF RX11 53 11 5 RX11 TX11 11 := ⟨rfl, by decide, cin_11, by decide, xw_474, rfl⟩
theorem ff_11_57 : x_FF RX11 57 11 6 RX11 TX11 11 := ⟨rfl, by decide, cin_11, by decide, xw_475, rfl⟩
theorem ff_11_66 : x_FF RX11 66 11 7 RX11 TX11 11 := ⟨rfl, by decide, cin_11, by decide, xw_476, rfl⟩
theorem ff_11_75 : x_FF RX11 75 11 8 RX11 TX11 11 := ⟨rfl, by decide, cin_11, by decide, xw_477, rfl⟩
theorem ff_11_82 : x_FF RX11 82 11 9 RX11 TX11 11 := ⟨rfl, by decide, cin_11, by decide, xw_478, rfl⟩
theorem ff_12_100 : x_FF RX12 100 12 52 RX12 TX12 72 := ⟨rfl, by decide, cin_12, by decide, xw_1217, rfl⟩
theorem ff_12_103 : x_FF RX12 103 12 53 RX12 TX12 72 := ⟨rfl, by decide, cin_12, by decide, xw_1218, rfl⟩
theorem ff_12_106 : x_FF RX12 106 12 54 RX12 TX12 72 := ⟨rfl, by decide, cin_12, by decide, xw_1219, rfl⟩
theorem ff_12_109 : x_FF RX12 109 12 55 RX12 TX12 72 := ⟨rfl, by decide, cin_12, by decide, xw_1220, rfl⟩
theorem ff_12_112 : x_FF RX12 112 12 56 RX12 TX12 72 := ⟨rfl, by decide, cin_12, by decide, xw_1221, rfl⟩
theorem ff_12_116 : x_FF RX12 116 12 58 RX12 TX12 72 := ⟨rfl, by decide, cin_12, by decide, xw_1223, rfl⟩
theorem ff_12_119 : x_FF RX12 119 12 66 RX12 TX12 72 := ⟨rfl, by decide, cin_12, by decide, xw_1231, rfl⟩
theorem ff_12_122 : x_FF RX12 122 12 67 RX12 TX12 72 := ⟨rfl, by decide, cin_12, by decide, xw_1232, rfl⟩
theorem ff_12_125 : x_FF RX12 125 12 69 RX12 TX12 72 := ⟨rfl, by decide, cin_12, by decide, xw_1234, rfl⟩
theorem ff_12_128 : x_FF RX12 128 12 70 RX12 TX12 72 := ⟨rfl, by decide, cin_12, by decide, xw_1235, rfl⟩
theorem ff_12_13 : x_FF RX12 13 12 3 RX12 TX12 72 := ⟨rfl, by decide, cin_12, by decide, xw_1168, rfl⟩
theorem ff_12_131 : x_FF RX12 131 12 0 RX12 TX12 72 := ⟨rfl, by decide, cin_12, by decide, xw_1165, rfl⟩
theorem ff_12_135 : x_FF RX12 135 12 1 RX12 TX12 72 := ⟨rfl, by decide, cin_12, by decide, xw_1166, rfl⟩
theorem ff_12_158 : x_FF RX12 158 12 26 RX12 TX12 72 := ⟨rfl, by decide, cin_12, by decide, xw_1191, rfl⟩
theorem ff_12_16 : x_FF RX12 16 12 4 RX12 TX12 72 := ⟨rfl, by decide, cin_12, by decide, xw_1169, rfl⟩
theorem ff_12_164 : x_FF RX12 164 12 28 RX12 TX12 72 := ⟨rfl, by decide, cin_12, by decide, xw_1193, rfl⟩
theorem ff_12_168 : x_FF RX12 168 12 29 RX12 TX12 72 := ⟨rfl, by decide, cin_12, by decide, xw_1194, rfl⟩
theorem ff_12_174 : x_FF RX12 174 12 31 RX12 TX12 72 := ⟨rfl, by decide, cin_12, by decide, xw_1196, rfl⟩
theorem ff_12_177 : x_FF RX12 177 12 30 RX12 TX12 72 := ⟨rfl, by decide, cin_12, by decide, xw_1195, rfl⟩
theorem ff_12_189 : x_FF RX12 189 12 32 RX12 TX12 72 := ⟨rfl, by decide, cin_12, by decide, xw_1197, rfl⟩
theorem ff_12_19 : x_FF RX12 19 12 6 RX12 TX12 72 := ⟨rfl, by decide, cin_12, by decide, xw_1171, rfl⟩
theorem ff_12_192 : x_FF RX12 192 12 33 RX12 TX12 72 := ⟨rfl, by decide, cin_12, by decide, xw_1198, rfl⟩
theorem ff_12_195 : x_FF RX12 195 12 34 RX12 TX12 72 := ⟨rfl, by decide, cin_12, by decide, xw_1199, rfl⟩
theorem ff_12_22 : x_FF RX12 22 12 8 RX12 TX12 72 := ⟨rfl, by decide, cin_12, by decide, xw_1173, rfl⟩
theorem ff_12_243 : x_FF RX12 243 12 35 RX12 TX12 72 := ⟨rfl, by decide, cin_12, by decide, xw_1200, rfl⟩
theorem ff_12_25 : x_FF RX12 25 12 9 RX12 TX12 72 := ⟨rfl, by decide, cin_12, by decide, xw_1174, rfl⟩
theorem ff_12_251 : x_FF RX12 251 12 36 RX12 TX12 72 := ⟨rfl, by decide, cin_12, by decide, xw_1201, rfl⟩
theorem ff_12_254 : x_FF RX12 254 12 37 RX12 TX12 72 := ⟨rfl, by decide, cin_12, by decide, xw_1202, rfl⟩
theorem ff_12_271 : x_FF RX12 271 12 38 RX12 TX12 72 := ⟨rfl, by decide, cin_12, by decide, xw_1203, rfl⟩
theorem ff_12_28 : x_FF RX12 28 12 11 RX12 TX12 72 := ⟨rfl, by decide, cin_12, by decide, xw_1176, rfl⟩
theorem ff_12_282 : x_FF RX12 282 12 5 RX12 TX12 72 := ⟨rfl, by decide, cin_12, by decide, xw_1170, rfl⟩
theorem ff_12_285 : x_FF RX12 285 12 7 RX12 TX12 72 := ⟨rfl, by decide, cin_12, by decide, xw_1172, rfl⟩
theorem ff_12_288 : x_FF RX12 288 12 10 RX12 TX12 72 := ⟨rfl, by decide, cin_12, by decide, xw_1175, rfl⟩
theorem ff_12_291 : x_FF RX12 291 12 18 RX12 TX12 72 := ⟨rfl, by decide, cin_12, by decide, xw_1183, rfl⟩
theorem ff_12_31 : x_FF RX12 31 12 12 RX12 TX12 72 := ⟨rfl, by decide, cin_12, by decide, xw_1177, rfl⟩
theorem ff_12_312 : x_FF RX12 312 12 27 RX12 TX12 72 := ⟨rfl, by decide, cin_12, by decide, xw_1192, rfl⟩
theorem ff_12_316 : x_FF RX12 316 12 41 RX12 TX12 72 := ⟨rfl, by decide, cin_12, by decide, xw_1206, rfl⟩
theorem ff_12_319 : x_FF RX12 319 12 44 RX12 TX12 72 := ⟨rfl, by decide, cin_12, by decide, xw_1209, rfl⟩
theorem ff_12_34 : x_FF RX12 34 12 13 RX12 TX12 72 := ⟨rfl, by decide, cin_12, by decide, xw_1178, rfl⟩
theorem ff_12_37 : x_FF RX12 37 12 14 RX12 TX12 72 := ⟨rfl, by decide, cin_12, by decide, xw_1179, rfl⟩
theorem ff_12_378 : x_FF RX12 378 12 48 RX12 TX12 72 := ⟨rfl, by decide, cin_12, by decide, xw_1213, rfl⟩
theorem ff_12_381 : x_FF RX12 381 12 62 RX12 TX12 72 := ⟨rfl, by decide, cin_12, by decide, xw_1227, rfl⟩
theorem ff_12_384 : x_FF RX12 384 12 61 RX12 TX12 72 := ⟨rfl, by decide, cin_12, by decide, xw_1226, rfl⟩
theorem ff_12_388 : x_FF RX12 388 12 60 RX12 TX12 72 := ⟨rfl, by decide, cin_12, by decide, xw_1225, rfl⟩
theorem ff_12_391 : x_FF RX12 391 12 63 RX12 TX12 72 := ⟨rfl, by decide, cin_12, by decide, xw_1228, rfl⟩
theorem ff_12_394 : x_FF RX12 394 12 64 RX12 TX12 72 := ⟨rfl, by decide, cin_12, by decide, xw_1229, rfl⟩
theorem ff_12_397 : x_FF RX12 397 12 57 RX12 TX12 72 := ⟨rfl, by decide, cin_12, by decide, xw_1222, rfl⟩
theorem ff_12_40 : x_FF RX12 40 12 15 RX12 TX12 72 := ⟨rfl, by decide, cin_12, by decide, xw_1180, rfl⟩
theorem ff_12_400 : x_FF RX12 400 12 59 RX12 TX12 72 := ⟨rfl, by decide, cin_12, by decide, xw_1224, rfl⟩
theorem ff_12_43 : x_FF RX12 43 12 16 RX12 TX12 72 := ⟨rfl, by decide, cin_12, by decide, xw_1181, rfl⟩
theorem ff_12_433 : x_FF RX12 433 12 65 RX12 TX12 72 := ⟨rfl, by decide, cin_12, by decide, xw_1230, rfl⟩
theorem ff_12_438 : x_FF RX12 438 12 68 RX12 TX12 72 := ⟨rfl, by decide, cin_12, by decide, xw_1233, rfl⟩
theorem ff_12_46 : x_FF RX12 46 12 17 RX12 TX12 72 := ⟨rfl, by decide, cin_12, by decide, xw_1182, rfl⟩
theorem ff_12_460 : x_FF RX12 460 12 71 RX12 TX12 72 := ⟨rfl, by decide, cin_12, by decide, xw_1236, rfl⟩
theorem ff_12_49 : x_FF RX12 49 12 19 RX12 TX12 72 := ⟨rfl, by decide, cin_12, by decide, xw_1184, rfl⟩
theorem ff_12_52 : x_FF RX12 52 12 20 RX12 TX12 72 := ⟨rfl, by decide, cin_12, by decide, xw_1185, rfl⟩
theorem ff_12_55 : x_FF RX12 55 12 21 RX12 TX12 72 := ⟨rfl, by decide, cin_12, by decide, xw_1186, rfl⟩
theorem ff_12_58 : x_FF RX12 58 12 22 RX12 TX12 72 := ⟨rfl, by decide, cin_12, by decide, xw_1187, rfl⟩
theorem ff_12_61 : x_FF RX12 61 12 23 RX12 TX12 72 := ⟨rfl, by decide, cin_12, by decide, xw_1188, rfl⟩
theorem ff_12_64 : x_FF RX12 64 12 24 RX12 TX12 72 := ⟨rfl, by decide, cin_12, by decide, xw_1189, rfl⟩
theorem ff_12_67 : x_FF RX12 67 12 25 RX12 TX12 72 := ⟨rfl, by decide, cin_12, by decide, xw_1190, rfl⟩
theorem ff_12_7 : x_FF RX12 7 12 2 RX12 TX12 72 := ⟨rfl, by decide, cin_12, by decide, xw_1167, rfl⟩
theorem ff_12_70 : x_FF RX12 70 12 39 RX12 TX12 72 := ⟨rfl, by decide, cin_12, by decide, xw_1204, rfl⟩
theorem ff_12_73 : x_FF RX12 73 12 40 RX12 TX12 72 := ⟨rfl, by decide, cin_12, by decide, xw_1205, rfl⟩
theorem ff_12_76 : x_FF RX12 76 12 42 RX12 TX12 72 := ⟨rfl, by decide, cin_12, by decide, xw_1207, rfl⟩
theorem ff_12_79 : x_FF RX12 79 12 43 RX12 TX12 72 := ⟨rfl, by decide, cin_12, by decide, xw_1208, rfl⟩
theorem ff_12_82 : x_FF RX12 82 12 45 RX12 TX12 72 := ⟨rfl, by decide, cin_12, by decide, xw_1210, rfl⟩
theorem ff_12_85 : x_FF RX12 85 12 46 RX12 TX12 72 := ⟨rfl, by decide, cin_12, by decide, xw_1211, rfl⟩
theorem ff_12_88 : x_FF RX12 88 12 47 RX12 TX12 72 := ⟨rfl, by decide, cin_12, by decide, xw_1212, rfl⟩
theorem ff_12_91 : x_FF RX12 91 12 49 RX12 TX12 72 := ⟨rfl, by decide, cin_12, by decide, xw_1214, rfl⟩
theorem ff_12_94 : x_FF RX12 94 12 50 RX12 TX12 72 := ⟨rfl, by decide, cin_12, by decide, xw_1215, rfl⟩
theorem ff_12_97 : x_FF RX12 97 12 51 RX12 TX12 72 := ⟨rfl, by decide, cin_12, by decide, xw_1216, rfl⟩
theorem fp_0_3 : x_FP 0 3 TX0 4 tyX0 .int := ⟨tyX0_ok, nmX0, rfl, by decide +kernel, by decide⟩
theorem fp_1_3 : x_FP 1 3 TX1 8 tyX1 .int := ⟨tyX1_ok, nmX1, rfl, by decide +kernel, by decide⟩
theorem fp_1_4 : x_FP 1 4 TX1 8 tyX1 .int := ⟨tyX1_ok, nmX1, rfl, by decide +kernel, by decide⟩
theorem fp_1_5 : x_FP 1 5 TX1 8 tyX1 .int := ⟨tyX1_ok, nmX1, rfl, by decide +kernel, by decide⟩
theorem fp_1_6 : x_FP 1 6 TX1 8 tyX1 .int := ⟨tyX1_ok, nmX1, rfl, by decide +kernel, by decide⟩
theorem fp_1_7 : x_FP 1 7 TX1 8 tyX1 .int := ⟨tyX1_ok, nmX1, rfl, by decide +kernel, by decide⟩
theorem fp_2_4 : x_FP 2 4 TX2 6 tyX2 .int := ⟨tyX2_ok, nmX2, rfl, by decide +kernel, by decide⟩
theorem fp_2_5 : x_FP 2 5 TX2 6 tyX2 .int := ⟨tyX2_ok, nmX2, rfl, by decide +kernel, by decide⟩
theorem fp_3_0 : x_FP 3 0 TX3 8 tyX3 .int := ⟨tyX3_ok, nmX3, rfl, by decide +kernel, by decide⟩
theorem fp_3_1 : x_FP 3 1 TX3 8 tyX3 .int := ⟨tyX3_ok, nmX3, rfl, by decide +kernel, by decide⟩
theorem fp_3_2 : x_FP 3 2 TX3 8 tyX3 .int := ⟨tyX3_ok, nmX3, rfl, by decide +kernel, by decide⟩
theorem fp_3_3 : x_FP 3 3 TX3 8 tyX3 .int := ⟨tyX3_ok, nmX3, rfl, by decide +kernel, by decide⟩
theorem fp_3_4 : x_FP 3 4 TX3 8 tyX3 .boolean := ⟨tyX3_ok, nmX3, rfl, by decide +kernel, by decide⟩
theorem fp_3_5 : x_FP 3 5 TX3 8 tyX3 .int := ⟨tyX3_ok, nmX3, rfl, by decide +kernel, by decide⟩
theorem fp_3_6 : x_FP 3 6 TX3 8 tyX3 .char := ⟨tyX3_ok, nmX3, rfl, by decide +kernel, by decide⟩
theorem fp_3_7 : x_FP 3 7 TX3 8 tyX3 .int := ⟨tyX3_ok, nmX3, rfl, by decide +kernel, by decide⟩
theorem fp_4_10 : x_FP 4 10 TX4 13 tyX4 .int := ⟨tyX4_ok, nmX4, rfl, by decide +kernel, by decide⟩
theorem fp_4_11 : x_FP 4 11 TX4 13 tyX4 .int := ⟨tyX4_ok, nmX4, rfl, by decide +kernel, by decide⟩
theorem fp_4_12 : x_FP 4 12 TX4 13 tyX4 .int := ⟨tyX4_ok, nmX4, rfl, by decide +kernel, by decide⟩
theorem fp_4_5 : x_FP 4 5 TX4 13 tyX4 .int := ⟨tyX4_ok, nmX4, rfl, by decide +kernel, by decide⟩
theorem fp_4_6 : x_FP 4 6 TX4 13 tyX4 .int := ⟨tyX4_ok, nmX4, rfl, by decide +kernel, by decide⟩
theorem fp_4_7 : x_FP 4 7 TX4 13 tyX4 .int := ⟨tyX4_ok, nmX4, rfl, by decide +kernel, by decide⟩
theorem fp_4_8 : x_FP 4 8 TX4 13 tyX4 .int := ⟨tyX4_ok, nmX4, rfl, by decide +kernel, by decide⟩
theorem fp_4_9 : x_FP 4 9 TX4 13 tyX4 .int := ⟨tyX4_ok, nmX4, rfl, by decide +kernel, by decide⟩
theorem fp_5_2 : x_FP 5 2 TX5 5 tyX5 .boolean := ⟨tyX5_ok, nmX5, rfl, by decide +kernel, by decide⟩
theorem fp_5_3 : x_FP 5 3 TX5 5 tyX5 .int := ⟨tyX5_ok, nmX5, rfl, by decide +kernel, by decide⟩
theorem fp_5_4 : x_FP 5 4 TX5 5 tyX5 .int := ⟨tyX5_ok, nmX5, rfl, by decide +kernel, by decide⟩
theorem fp_6_4 : x_FP 6 4 TX6 5 tyX6 .int := ⟨tyX6_ok, nmX6, rfl, by decide +kernel, by decide⟩
theorem fp_7_7 : x_FP 7 7 TX7 9 tyX7 .int := ⟨tyX7_ok, nmX7, rfl, by decide +kernel, by decide⟩
theorem fp_7_8 : x_FP 7 8 TX7 9 tyX7 .boolean := ⟨tyX7_ok, nmX7, rfl, by decide +kernel, by decide⟩
theorem fp_10_1 : x_FP 10 1 TX10 6 tyX10 .int := ⟨tyX10_ok, nmX10, rfl, by decide +kernel, by decide⟩
theorem fp_10_2 : x_FP 10 2 TX10 6 tyX10 .int := ⟨tyX10_ok, nmX10, rfl, by decide +kernel, by decide⟩
theorem fp_10_3 : x_FP 10 3 TX10 6 tyX10 .int := ⟨tyX10_ok, nmX10, rfl, by decide +kernel, by decide⟩
theorem fp_10_4 : x_FP 10 4 TX10 6 tyX10 .int := ⟨tyX10_ok, nmX10, rfl, by decide +kernel, by decide⟩
theorem fp_10_5 : x_FP 10 5 TX10 6 tyX10 .int := ⟨tyX10_ok, nmX10, rfl, by decide +kernel, by decide⟩
theorem fp_11_10 : x_FP 11 10 TX11 11 tyX11 .int := ⟨tyX11_ok, nmX11, rfl, by decide +kernel, by decide⟩
theorem fp_12_0 : x_FP 12 0 TX12 72 tyX12 .int := ⟨tyX12_ok, nmX12, rfl, by decide +kernel, by decide⟩
theorem fp_12_1 : x_FP 12 1 TX12 72 tyX12 .int := ⟨tyX12_ok, nmX12, rfl, by decide +kernel, by decide⟩
theorem fp_12_10 : x_FP 12 10 TX12 72 tyX12 .int := ⟨tyX12_ok, nmX12, rfl, by decide +kernel, by decide⟩
theorem fp_12_18 : x_FP 12 18 TX12 72 tyX12 .int := ⟨tyX12_ok, nmX12, rfl, by decide +kernel, by decide⟩
theorem fp_12_26 : x_FP 12 26 TX12 72 tyX12 .int := ⟨tyX12_ok, nmX12, rfl, by decide +kernel, by decide⟩
theorem fp_12_27 : x_FP 12 27 TX12 72 tyX12 .int := ⟨tyX12_ok, nmX12, rfl, by decide +kernel, by decide⟩
theorem fp_12_28 : x_FP 12 28 TX12 72 tyX12 .int := ⟨tyX12_ok, nmX12, rfl, by decide +kernel, by decide⟩
theorem fp_12_29 : x_FP 12 29 TX12 72 tyX12 .int := ⟨tyX12_ok, nmX12, rfl, by decide +kernel, by decide⟩
theorem fp_12_30 : x_FP 12 30 TX12 72 tyX12 .int := ⟨tyX12_ok, nmX12, rfl, by decide +kernel, by decide⟩
theorem fp_12_31 : x_FP 12 31 TX12 72 tyX12 .int := ⟨tyX12_ok, nmX12, rfl, by decide +kernel, by decide⟩
theorem fp_12_32 : x_FP 12 32 TX12 72 tyX12 .int := ⟨tyX12_ok, nmX12, rfl, by decide +kernel, by decide⟩
theorem fp_12_33 : x_FP 12 33 TX12 72 tyX12 .int := ⟨tyX12_ok, nmX12, rfl, by decide +kernel, by decide⟩
theorem fp_12_34 : x_FP 12 34 TX12 72 tyX12 .int := ⟨tyX12_ok, nmX12, rfl, by decide +kernel, by decide⟩
theorem fp_12_35 : x_FP 12 35 TX12 72 tyX12 .int := ⟨tyX12_ok, nmX12, rfl, by decide +kernel, by decide⟩
theorem fp_12_36 : x_FP 12 36 TX12 72 tyX12 .int := ⟨tyX12_ok, nmX12, rfl, by decide +kernel, by decide⟩
theorem fp_12_37 : x_FP 12 37 TX12 72 tyX12 .int := ⟨tyX12_ok, nmX12, rfl, by decide +kernel, by decide⟩
theorem fp_12_38 : x_FP 12 38 TX12 72 tyX12 .int := ⟨tyX12_ok, nmX12, rfl, by decide +kernel, by decide⟩
theorem fp_12_41 : x_FP 12 41 TX12 72 tyX12 .int := ⟨tyX12_ok, nmX12, rfl, by decide +kernel, by decide⟩
theorem fp_12_44 : x_FP 12 44 TX12 72 tyX12 .int := ⟨tyX12_ok, nmX12, rfl, by decide +kernel, by decide⟩
theorem fp_12_48 : x_FP 12 48 TX12 72 tyX12 .int := ⟨tyX12_ok, nmX12, rfl, by decide +kernel, by decide⟩
theorem fp_12_5 : x_FP 12 5 TX12 72 tyX12 .int := ⟨tyX12_ok, nmX12, rfl, by decide +kernel, by decide⟩
theorem fp_12_57 : x_FP 12 57 TX12 72 tyX12 .int := ⟨tyX12_ok, nmX12, rfl, by decide +kernel, by decide⟩
theorem fp_12_59 : x_FP 12 59 TX12 72 tyX12 .boolean := ⟨tyX12_ok, nmX12, rfl, by decide +kernel, by decide⟩
theorem fp_12_60 : x_FP 12 60 TX12 72 tyX12 .boolean := ⟨tyX12_ok, nmX12, rfl, by decide +kernel, by decide⟩
theorem fp_12_61 : x_FP 12 61 TX12 72 tyX12 .boolean := ⟨tyX12_ok, nmX12, rfl, by decide +kernel, by decide⟩
theorem fp_12_62 : x_FP 12 62 TX12 72 tyX12 .int := ⟨tyX12_ok, nmX12, rfl, by decide +kernel, by decide⟩
theorem fp_12_63 : x_FP 12 63 TX12 72 tyX12 .int := ⟨tyX12_ok, nmX12, rfl, by decide +kernel, by decide⟩
theorem fp_12_64 : x_FP 12 64 TX12 72 tyX12 .int := ⟨tyX12_ok, nmX12, rfl, by decide +kernel, by decide⟩
theorem fp_12_65 : x_FP 12 65 TX12 72 tyX12 .int := ⟨tyX12_ok, nmX12, rfl, by decide +kernel, by decide⟩
theorem fp_12_68 : x_FP 12 68 TX12 72 tyX12 .int := ⟨tyX12_ok, nmX12, rfl, by decide +kernel, by decide⟩
theorem fp_12_7 : x_FP 12 7 TX12 72 tyX12 .int := ⟨tyX12_ok, nmX12, rfl, by decide +kernel, by decide⟩
theorem fp_12_71 : x_FP 12 71 TX12 72 tyX12 .int := ⟨tyX12_ok, nmX12, rfl, by decide +kernel, by decide⟩
theorem is_0 : x_is 0 11 := ⟨by decide, by decide⟩
theorem is_1 : x_is 1 8 := ⟨by decide, by decide⟩
theorem is_126 : x_is 126 5 := ⟨by decide, by decide⟩
theorem is_127 : x_is 127 2 := ⟨by decide, by decide⟩
theorem is_128 : x_is 128 13 := ⟨by decide, by decide⟩
theorem is_129 : x_is 129 13 := ⟨by decide, by decide⟩
theorem is_130 : x_is 130 13 := ⟨by decide, by decide⟩
theorem is_131 : x_is 131 6 := ⟨by decide, by decide⟩
theorem is_132 : x_is 132 13 := ⟨by decide, by decide⟩
theorem is_133 : x_is 133 13 := ⟨by decide, by decide⟩
theorem is_134 : x_is 134 13 := ⟨by decide, by decide⟩
theorem is_135 : x_is 135 7 := ⟨by decide, by decide⟩
theorem is_14 : x_is 14 10 := ⟨by decide, by decide⟩
theorem is_146 : x_is 146 9 := ⟨by decide, by decide⟩
theorem is_147 : x_is 147 7 := ⟨by decide, by decide⟩
theorem is_15 : x_is 15 13 := ⟨by decide, by decide⟩
theorem is_158 : x_is 158 13 := ⟨by decide, by decide⟩
theorem is_159 : x_is 159 14 := ⟨by decide, by decide⟩
theorem is_16 : x_is 16 4 := ⟨by decide, by decide⟩
theorem is_160 : x_is 160 0 := ⟨by decide, by decide⟩
theorem is_161 : x_is 161 13 := ⟨by decide, by decide⟩
theorem is_162 : x_is 162 12 := ⟨by decide, by decide⟩
theorem is_163 : x_is 163 13 := ⟨by decide, by decide⟩
theorem is_164 : x_is 164 13 := ⟨by decide, by decide⟩
theorem is_165 : x_is 165 13 := ⟨by decide, by decide⟩
theorem is_166 : x_is 166 13 := ⟨by decide, by decide⟩
theorem is_167 : x_is 167 13 := ⟨by decide, by decide⟩
theorem is_168 : x_is 168 13 := ⟨by decide, by decide⟩
theorem is_169 : x_is 169 13 := ⟨by decide, by decide⟩
theorem is_17 : x_is 17 13 := ⟨by decide, by decide⟩
theorem is_170 : x_is 170 13 := ⟨by decide, by decide⟩
theorem is_171 : x_is 171 13 := ⟨by decide, by decide⟩
theorem is_172 : x_is 172 13 := ⟨by decide, by decide⟩
theorem is_173 : x_is 173 13 := ⟨by decide, by decide⟩
theorem is_174 : x_is 174 13 := ⟨by decide, by decide⟩
theorem is_175 : x_is 175 13 := ⟨by decide, by decide⟩
theorem is_176 : x_is 176 13 := ⟨by decide, by decide⟩
theorem is_177 : x_is 177 13 := ⟨by decide, by decide⟩
theorem is_178 : x_is 178 13 := ⟨by decide, by decide⟩
theorem is_179 : x_is 179 13 := ⟨by decide, by decide⟩
theorem is_18 : x_is 18 13 := ⟨by decide, by decide⟩
theorem is_180 : x_is 180 13 := ⟨by decide, by decide⟩
theorem is_181 : x_is 181 13 := ⟨by decide, by decide⟩
theorem is_182 : x_is 182 13 := ⟨by decide, by decide⟩
theorem is_183 : x_is 183 13 := ⟨by decide, by decide⟩
theorem is_184 : x_is 184 13 := ⟨by decide, by decide⟩
theorem is_185 : x_is 185 13 := ⟨by decide, by decide⟩
theorem is_186 : x_is 186 13 := ⟨by decide, by decide⟩
theorem is_187 : x_is 187 13 := ⟨by decide, by decide⟩
theorem is_188 : x_is 188 13 := ⟨by decide, by decide⟩
theorem is_189 : x_is 189 13 := ⟨by decide, by decide⟩
theorem is_19 : x_is 19 13 := ⟨by decide, by decide⟩
theorem is_190 : x_is 190 13 := ⟨by decide, by decide⟩
theorem is_191 : x_is 191 13 := ⟨by decide, by decide⟩
theorem is_192 : x_is 192 13 := ⟨by decide, by decide⟩
theorem is_193 : x_is 193 13 := ⟨by decide, by decide⟩
theorem is_194 : x_is 194 13 := ⟨by decide, by decide⟩
theorem is_195 : x_is 195 13 := ⟨by decide, by decide⟩
theorem is_196 : x_is 196 13 := ⟨by decide, by decide⟩
theorem is_197 : x_is 197 14 := ⟨by decide, by decide⟩
theorem is_198 : x_is 198 13 := ⟨by decide, by decide⟩
theorem is_199 : x_is 199 13 := ⟨by decide, by decide⟩
theorem is_2 : x_is 2 14 := ⟨by decide, by decide⟩
theorem is_20 : x_is 20 16 := ⟨by decide, by decide⟩
theorem is_200 : x_is 200 13 := ⟨by decide, by decide⟩
theorem is_201 : x_is 201 14 := ⟨by decide, by decide⟩
theorem is_202 : x_is 202 13 := ⟨by decide, by decide⟩
theorem is_21 : x_is 21 15 := ⟨by decide, by decide⟩
theorem is_3 : x_is 3 13 := ⟨by decide, by decide⟩
theorem is_4 : x_is 4 13 := ⟨by decide, by decide⟩
theorem is_5 : x_is 5 17 := ⟨by decide, by decide⟩
theorem rf_0_0 : x_rf 0 0 = some 1 := by decide
theorem rf_0_1 : x_rf 0 1 = some 14 := by decide
theorem rf_0_2 : x_rf 0 2 = some 16 := by decide
theorem rf_0_3 : x_rf 0 3 = some 126 := by decide
theorem rf_0_4 : x_rf 0 4 = some 127 := by decide
theorem rf_0_5 : x_rf 0 5 = some 131 := by decide
theorem rf_0_6 : x_rf 0 6 = some 134 := by decide
theorem rf_0_7 : x_rf 0 7 = some 135 := by decide
theorem rf_0_8 : x_rf 0 8 = some 146 := by decide
theorem rf_0_9 : x_rf 0 9 = some 160 := by decide
theorem rf_1_0 : x_rf 1 0 = some 2 := by decide
theorem rf_1_1 : x_rf 1 1 = some 3 := by decide
theorem rf_1_2 : x_rf 1 2 = some 4 := by decide
theorem rf_1_3 : x_rf 1 3 = some 5 := by decide
theorem rf_126_0 : x_rf 126 0 = some 14 := by decide
theorem rf_126_1 : x_rf 126 1 = some 16 := by decide
theorem rf_127_0 : x_rf 127 0 = some 16 := by decide
theorem rf_127_1 : x_rf 127 1 = some 128 := by decide
theorem rf_127_2 : x_rf 127 2 = some 129 := by decide
theorem rf_127_3 : x_rf 127 3 = some 130 := by decide
theorem rf_131_0 : x_rf 131 0 = some 16 := by decide
theorem rf_131_1 : x_rf 131 1 = some 127 := by decide
theorem rf_131_2 : x_rf 131 2 = some 132 := by decide
theorem rf_131_3 : x_rf 131 3 = some 133 := by decide
theorem rf_14_0 : x_rf 14 0 = some 15 := by decide
theorem rf_146_1 : x_rf 146 1 = some 127 := by decide
theorem rf_146_2 : x_rf 146 2 = some 147 := by decide
theorem rf_146_3 : x_rf 146 3 = some 158 := by decide
theorem rf_146_4 : x_rf 146 4 = some 159 := by decide
theorem rf_16_0 : x_rf 16 0 = some 17 := by decide
theorem rf_16_1 : x_rf 16 1 = some 18 := by decide
theorem rf_16_2 : x_rf 16 2 = some 19 := by decide
theorem rf_16_3 : x_rf 16 3 = some 20 := by decide
theorem rf_16_4 : x_rf 16 4 = some 21 := by decide
theorem rf_160_0 : x_rf 160 0 = some 16 := by decide
theorem rf_160_1 : x_rf 160 1 = some 127 := by decide
theorem rf_160_2 : x_rf 160 2 = some 161 := by decide
theorem rf_162_11 : x_rf 162 11 = some 169 := by decide
theorem rf_162_12 : x_rf 162 12 = some 170 := by decide
theorem rf_162_13 : x_rf 162 13 = some 171 := by decide
theorem rf_162_14 : x_rf 162 14 = some 172 := by decide
theorem rf_162_15 : x_rf 162 15 = some 173 := by decide
theorem rf_162_16 : x_rf 162 16 = some 174 := by decide
theorem rf_162_17 : x_rf 162 17 = some 175 := by decide
theorem rf_162_19 : x_rf 162 19 = some 176 := by decide
theorem rf_162_2 : x_rf 162 2 = some 163 := by decide
theorem rf_162_20 : x_rf 162 20 = some 177 := by decide
theorem rf_162_21 : x_rf 162 21 = some 178 := by decide
theorem rf_162_22 : x_rf 162 22 = some 179 := by decide
theorem rf_162_23 : x_rf 162 23 = some 180 := by decide
theorem rf_162_24 : x_rf 162 24 = some 181 := by decide
theorem rf_162_25 : x_rf 162 25 = some 182 := by decide
theorem rf_162_3 : x_rf 162 3 = some 164 := by decide
theorem rf_162_39 : x_rf 162 39 = some 183 := by decide
theorem rf_162_4 : x_rf 162 4 = some 165 := by decide
theorem rf_162_40 : x_rf 162 40 = some 184 := by decide
theorem rf_162_42 : x_rf 162 42 = some 185 := by decide
theorem rf_162_43 : x_rf 162 43 = some 186 := by decide
theorem rf_162_45 : x_rf 162 45 = some 187 := by decide
theorem rf_162_46 : x_rf 162 46 = some 188 := by decide
theorem rf_162_47 : x_rf 162 47 = some 189 := by decide
theorem rf_162_49 : x_rf 162 49 = some 190 := by decide
theorem rf_162_50 : x_rf 162 50 = some 191 := by decide
theorem rf_162_51 : x_rf 162 51 = some 192 := by decide
theorem rf_162_52 : x_rf 162 52 = some 193 := by decide
theorem rf_162_53 : x_rf 162 53 = some 194 := by decide
theorem rf_162_54 : x_rf 162 54 = some 195 := by decide
theorem rf_162_55 : x_rf 162 55 = some 196 := by decide
theorem rf_162_56 : x_rf 162 56 = some 197 := by decide
theorem rf_162_58 : x_rf 162 58 = some 198 := by decide
theorem rf_162_6 : x_rf 162 6 = some 166 := by decide
theorem rf_162_66 : x_rf 162 66 = some 199 := by decide
theorem rf_162_67 : x_rf 162 67 = some 200 := by decide
theorem rf_162_69 : x_rf 162 69 = some 201 := by decide
theorem rf_162_70 : x_rf 162 70 = some 202 := by decide
theorem rf_162_8 : x_rf 162 8 = some 167 := by decide
theorem rf_162_9 : x_rf 162 9 = some 168 := by decide
theorem rfc_7_0 : ∀ k, x_is k 7 → x_rf k 0 = some 16 := fun k h => (by decide +kernel : ∀ k, k < x_N → x_kd k = 7 → x_rf k 0 = some 16) k h.1 h.2
theorem rfc_7_1 : ∀ k, x_is k 7 → x_rf k 1 = some 127 := fun k h => (by decide +kernel : ∀ k, k < x_N → x_kd k = 7 → x_rf k 1 = some 127) k h.1 h.2
theorem rfc_7_2 : ∀ k, x_is k 7 → x_rf k 2 = some 131 := fun k h => (by decide +kernel : ∀ k, k < x_N → x_kd k = 7 → x_rf k 2 = some 131) k h.1 h.2
theorem sz_128 : x_sz 128 = 4 := by decide
theorem sz_129 : x_sz 129 = 16 := by decide
theorem sz_130 : x_sz 130 = 16 := by decide
theorem sz_132 : x_sz 132 = 8 := by decide
theorem sz_133 : x_sz 133 = 24 := by decide
theorem sz_134 : x_sz 134 = 24 := by decide
theorem sz_15 : x_sz 15 = 600 := by decide
theorem sz_158 : x_sz 158 = 4 := by decide
theorem sz_159 : x_sz 159 = 256 := by decide
theorem sz_161 : x_sz 161 = 16 := by decide
theorem sz_163 : x_sz 163 = 8 := by decide
theorem sz_164 : x_sz 164 = 8 := by decide
theorem sz_165 : x_sz 165 = 320 := by decide
theorem sz_166 : x_sz 166 = 8 := by decide
theorem sz_167 : x_sz 167 = 8 := by decide
theorem sz_168 : x_sz 168 = 8 := by decide
theorem sz_169 : x_sz 169 = 8 := by decide
theorem sz_17 : x_sz 17 = 8 := by decide
theorem sz_170 : x_sz 170 = 8 := by decide
theorem sz_171 : x_sz 171 = 8 := by decide
theorem sz_172 : x_sz 172 = 8 := by decide
theorem sz_173 : x_sz 173 = 8 := by decide
theorem sz_174 : x_sz 174 = 8 := by decide
theorem sz_175 : x_sz 175 = 8 := by decide
theorem sz_176 : x_sz 176 = 24 := by decide
theorem sz_177 : x_sz 177 = 24 := by decide
theorem sz_178 : x_sz 178 = 24 := by decide
theorem sz_179 : x_sz 179 = 24 := by decide
theorem sz_18 : x_sz 18 = 8 := by decide
theorem sz_180 : x_sz 180 = 24 := by decide
theorem sz_181 : x_sz 181 = 432 := by decide
theorem sz_182 : x_sz 182 = 600 := by decide
theorem sz_183 : x_sz 183 = 4 := by decide
theorem sz_184 : x_sz 184 = 4 := by decide
theorem sz_185 : x_sz 185 = 16 := by decide
theorem sz_186 : x_sz 186 = 16 := by decide
theorem sz_187 : x_sz 187 = 7 := by decide
theorem sz_188 : x_sz 188 = 168 := by decide
theorem sz_189 : x_sz 189 = 7 := by decide
theorem sz_19 : x_sz 19 = 8 := by decide
theorem sz_190 : x_sz 190 = 61 := by decide
theorem sz_191 : x_sz 191 = 61 := by decide
theorem sz_192 : x_sz 192 = 61 := by decide
theorem sz_193 : x_sz 193 = 61 := by decide
theorem sz_194 : x_sz 194 = 61 := by decide
theorem sz_195 : x_sz 195 = 61 := by decide
theorem sz_196 : x_sz 196 = 61 := by decide
theorem sz_197 : x_sz 197 = 61 := by decide
theorem sz_198 : x_sz 198 = 40 := by decide
theorem sz_199 : x_sz 199 = 40 := by decide
theorem sz_2 : x_sz 2 = 8 := by decide
theorem sz_20 : x_sz 20 = 8 := by decide
theorem sz_200 : x_sz 200 = 4 := by decide
theorem sz_201 : x_sz 201 = 256 := by decide
theorem sz_202 : x_sz 202 = 16 := by decide
theorem sz_21 : x_sz 21 = 24 := by decide
theorem sz_3 : x_sz 3 = 8 := by decide
theorem sz_4 : x_sz 4 = 8 := by decide
theorem sz_5 : x_sz 5 = 8 := by decide
end
section
/-! System.arraycopy; the JDK's methods on String constants -/
def x_cp (μ : xMu) (a i b j n : Nat) : xMu := fun c k => if c = b ∧ j ≤ k ∧ k < j + n then μ a (i + (k - j)) else μ c k
def x_cpy {α : Type} (μ : xMu) (a : Nat) (i : Int32) (b : Nat) (j n : Int32) (f : xMu → Option α) : Option α :=
  bif !(decide (i < 0)) && !(decide (j < 0)) && !(decide (n < 0)) && decide (i.toNatClampNeg + n.toNatClampNeg ≤ x_sz a) && decide (j.toNatClampNeg + n.toNatClampNeg ≤ x_sz b) then f (x_cp μ a i.toNatClampNeg b j.toNatClampNeg n.toNatClampNeg) else none
def x_slen (q : Nat) : Option Int32 := bif decide (910 ≤ q) && decide (q < 918) then some (nI (x_len.getD (q - 910) 0)) else none
def x_schar (q : Nat) (i : Int32) : Option Int32 := bif decide (910 ≤ q) && decide (q < 918) && x_inb i (x_len.getD (q - 910) 0) then some ((x_byt.getD (q - 910) []).getD i.toNatClampNeg 0) else none
theorem x_cp_row (μ : xMu) (a i b j n : Nat) : x_cp μ a i b j n b = va_cpy (μ a) (μ b) i j n := by
  funext k
  simp [x_cp, va_cpy]
theorem x_cp_ne {μ : xMu} {a i b j n c : Nat} (h : c ≠ b) : x_cp μ a i b j n c = μ c := by
  funext k
  simp [x_cp, h]
section HAND
variable {G : xG} {M : xM} {d pc : Nat} {L : List (Option Value)} {st : List Value} {μ : xMu} {α : Type} {w : α → Option Value × xMu} {o o2 : Option α}
theorem wx_copy {a b idx : Nat} {i j n : Int32} {f : xMu → Option α} (ha : x_is a 13) (hb1 : x_is b 13) (hd1 : 1 ≤ d) (hw : Cond.methodLink M.1.cls idx arraycopyName ∈ x_ws) (hrest : (st.map fun v => v.category).sum ≤ 8) (hd : decode M.2.1 pc = .ok (.invokestatic idx, 3)) (kk : ∀ μ1, Wx G M d (pc + 3) L st μ1 w (f μ1)) :
    Wx G M d pc L (.int n :: .int j :: .ref b :: .int i :: .ref a :: st) μ w (x_cpy μ a i b j n f) := by
  intro q ho p e s m args below meth c E hr hq ls H locs hl hP hS
  obtain ⟨h1, h2⟩ := x_bt ho
  simp only [Bool.and_eq_true, decide_eq_true_eq, Bool.not_eq_true', decide_eq_false_iff_not] at h1
  obtain ⟨⟨⟨⟨c1, c2⟩, c3⟩, c4⟩, c5⟩ := h1
  obtain ⟨hx, hb, hml, hown, hts, hK, hinj, hE⟩ := id E
  have he0 := x_W_at (cy := G.2.2.1) (ad := G.2.2.2) (μ := μ) ha.1
  have he1 := x_W_at (cy := G.2.2.1) (ad := G.2.2.2) (μ := μ) hb1.1
  rw [x_cell_i ha.2] at he0
  rw [x_cell_i hb1.2] at he1
  have hsum : ((st.map (x_cv G.2.2.2)).map fun v => v.category).sum ≤ 8 := by rw [x_rest]; exact hrest
  refine va_copyi hx hb (by rw [hml, hl.1]) hown (hts _ hw) (hts _ xw_557) (hts _ xw_556) (hts _ xw_104) hK hP (x_D hinj) hS a b 0 0 he0 he1 rfl rfl rfl c1 c2 c3 c4 c5 (fun _ _ => rfl) hd1 ?_ hd (fun H1 locs1 hP1 _ hS1 => ?_)
  · have : nativeFrameWords "java/lang/System" "arraycopy" 5 = 7 := by decide
    rw [this]
    show _ ≤ 40 * d
    omega
  · rw [x_W_set (μ' := x_cp μ a i.toNatClampNeg b j.toNatClampNeg n.toNatClampNeg) (by rw [x_cell_i hb1.2, x_cp_row]) (fun q h => by simp only [x_cell, x_fv, x_cp_ne h])] at hP1
    exact kk _ q h2 p e s m args below meth c E hr hq ls H1 locs1 hl hP1 hS1
/-- an answer of a small type -/
theorem wx_nret {a0 : α} {v : Int32} {ty : FieldType} (hw : w a0 = (some (.int v), μ)) (hM : M.2.2.2 = some ty) (hz : narrow ty (.int v) = .int v) (hd : decode M.2.1 pc = .ok (.ireturn, 1)) : Wx G M d pc L [.int v] μ w (some a0) := by
  intro a ho p e s m args below meth c E hr hk ls H locs hl hP hS
  cases ho
  rw [hw]
  exact W.zret E.1 E.2.1 (hr.trans hM) hz (fun t ht hW => ⟨rfl, by rw [ht]; exact hP, hS.F ht⟩) hS.2.2 hd hk
/-- a call on a String constant -/
theorem wx_callT {β : Type} {w1 : β → Option Value × xMu} {o1 : Option β} {f : β → Option α} {M' : xM} {d1 idx i n : Nat} {As rest : List Value} (hd1 : d1 < d) (hi : i < 8) (hc : M'.1.cls = "java/lang/String") (C : x_CV M.1.cls idx M' n) (hn : As.length = n) (hrest : (rest.map fun v => v.category).sum ≤ 8)
    (hM : Mx G M' d1 (.ref (910 + i) :: As) μ w1 o1) (hst : st = As.reverse ++ .ref (910 + i) :: rest) (hd : decode M.2.1 pc = .ok (.invokevirtual idx, 3)) (kk : ∀ b, Wx G M d (pc + 3) L ((w1 b).1.toList ++ rest) (w1 b).2 w (f b)) : Wx G M d pc L st μ w (o1.bind f) := by
  intro a ho p e s m args below meth c E hr hq
  obtain ⟨b, hb1, hf⟩ := Option.bind_eq_some_iff.mp ho
  intro ls H locs hl hP hS
  obtain ⟨hx, hb, hml, hown, hts, hK, hinj, hE⟩ := id E
  obtain ⟨hlink, hinst, hsel, hpd, hcode, hpl, hnm, hini, hnL⟩ := C
  subst hst
  refine wy_back (r := (w1 b).1) (μ' := (w1 b).2) E hl hS (va_runV (cc := M.2.1) (nL := M.2.2.1) (As := As.map (x_cv G.2.2.2)) (n := n) (b := G.2.2.2 (910 + i)) (C := M'.1.cls) (Ts := x_ws) (own := M.1.cls) ⟨hx, hb, hml, hown, hts⟩ (hM b hb1)
    (⟨callB_of n hts (x_goodM hcode) rfl rfl rfl (hts _ hini) (hts _ hlink) ⟨hnm.1, hnm.2, hpd⟩ ⟨hd1, by show 8 + (M'.2.2.1 + 11) + 40 * d1 ≤ 40 * d; omega⟩, hts _ hinst, hts _ hsel⟩)
    ⟨x_blind, by rw [hc]; exact vk_recv (i := i) (adK := fun i => G.2.2.2 (910 + i)) hE.2.2.2.1 hi hS, fun U hU hW => ⟨rfl, by rw [hU]; exact hP, va_K.moved hW.alike hK, hinj, hE.go hS hU hW⟩⟩ rfl (by rw [List.length_map]; exact hn) hl.1 (by simp [x_cv]) (lv_room (by rw [x_rest]; exact hrest)) hd ⟨Nat.le_refl 0, Nat.le_refl 0⟩) (kk b a hf p e s m args below meth c E hr hq)
theorem wx_sval {i idx : Nat} (hi : i < 8) (hw : Cond.fieldLink M.1.cls idx "java/lang/String" "value" "[B" ∈ x_ws) (hd : decode M.2.1 pc = .ok (.getfield idx, 3)) (kk : Wx G M d (pc + 3) L (.ref (930 + i) :: st) μ w o) : Wx G M d pc L (.ref (910 + i) :: st) μ w o := by
  intro a ho p e s m args below meth c E hr hq ls H locs hl hP hS
  obtain ⟨hx, hb, hml, hown, hts, hK, hinj, hE⟩ := id E
  exact vk_getf (ref := "java/lang/String") hx hb (hE.2.2.2.1.1 i hi).2.2.1 hS hown (hts _ hw) (fun _ h => h) hd (kk a ho p e s m args below meth c E hr hq ls H locs hl hP hS)
theorem wx_scod {i idx : Nat} (hi : i < 8) (hw : Cond.fieldLink M.1.cls idx "java/lang/String" "coder" "B" ∈ x_ws) (hd : decode M.2.1 pc = .ok (.getfield idx, 3)) (kk : Wx G M d (pc + 3) L (.int 0 :: st) μ w o) : Wx G M d pc L (.ref (910 + i) :: st) μ w o := by
  intro a ho p e s m args below meth c E hr hq ls H locs hl hP hS
  obtain ⟨hx, hb, hml, hown, hts, hK, hinj, hE⟩ := id E
  exact vk_getf (ref := "java/lang/String") hx hb (hE.2.2.2.1.1 i hi).2.1 hS hown (hts _ hw) (fun _ h => h) hd (kk a ho p e s m args below meth c E hr hq ls H locs hl hP hS)
theorem wx_scom {idx : Nat} (hw : Cond.fieldLink M.1.cls idx "java/lang/String" "COMPACT_STRINGS" "Z" ∈ x_ws) (hd : decode M.2.1 pc = .ok (.getstatic idx, 3)) (kk : Wx G M d (pc + 3) L (.int 1 :: st) μ w o) : Wx G M d pc L st μ w o := by
  intro a ho p e s m args below meth c E hr hq ls H locs hl hP hS
  obtain ⟨hx, hb, hml, hown, hts, hK, hinj, hE⟩ := id E
  exact va_gets (ref := "java/lang/String") hx hb hE.2.2.1 hS hown (hts _ hw) (fun x h => h) hd (kk a ho p e s m args below meth c E hr hq ls H locs hl hP hS)
theorem wx_ssio {idx : Nat} (hw : Cond.fieldLink M.1.cls idx "jdk/internal/util/Preconditions" "SIOOBE_FORMATTER" "Ljava/util/function/BiFunction;" ∈ x_ws) (hd : decode M.2.1 pc = .ok (.getstatic idx, 3)) (kk : ∀ v : Value, (v = .null ∨ v = .ref 950) → Wx G M d (pc + 3) L (v :: st) μ w o) : Wx G M d pc L st μ w o := by
  intro a ho p e s m args below meth c E hr hq ls H locs hl hP hS
  obtain ⟨hx, hb, hml, hown, hts, hK, hinj, hE⟩ := id E
  obtain ⟨v, hv, hz⟩ := hE.2.2.2.2.2
  exact va_gets (ref := "jdk/internal/util/Preconditions") hx hb hz hS hown (hts _ hw) (fun x h => h) hd (kk v hv a ho p e s m args below meth c E hr hq ls H locs hl hP hS)
theorem wx_salen {i : Nat} (hi : i < 8) (hd : decode M.2.1 pc = .ok (.arraylength, 1)) (kk : Wx G M d (pc + 1) L (.int (nI (x_len.getD i 0)) :: st) μ w o) : Wx G M d pc L (.ref (930 + i) :: st) μ w o := by
  intro a ho p e s m args below meth c E hr hq ls H locs hl hP hS
  obtain ⟨hx, hb, hml, hown, hts, hK, hinj, hE⟩ := id E
  exact va_tlen hx hb (hE.2.2.2.1.1 i hi).2.2.2 hS rfl hd (kk a ho p e s m args below meth c E hr hq ls H locs hl hP hS)
theorem wx_sbald {i : Nat} {j : Int32} (hi : i < 8) (hin : vp_in j (x_len.getD i 0)) (hd : decode M.2.1 pc = .ok (.baload, 1)) (kk : Wx G M d (pc + 1) L (.int ((x_byt.getD i []).getD j.toNatClampNeg 0) :: st) μ w o) : Wx G M d pc L (.int j :: .ref (930 + i) :: st) μ w o := by
  intro a ho p e s m args below meth c E hr hq ls H locs hl hP hS
  obtain ⟨hx, hb, hml, hown, hts, hK, hinj, hE⟩ := id E
  exact va_tb hx hb (hE.2.2.2.1.1 i hi).2.2.2 hS hin rfl hd (kk a ho p e s m args below meth c E hr hq ls H locs hl hP hS)
end HAND
def mJ_length : xM := (yJ0_length_8abf5, cJ0_length_8abf5, 1, some .int)
def mJ_charAt : xM := (yJ0_charAt_5068e, cJ0_charAt_5068e, 2, some .char)
def mJ_coder : xM := (yJ0_coder_7d493, cJ0_coder_7d493, 1, some .byte)
def mJ_isLatin1 : xM := (yJ0_isLatin1_aae02, cJ0_isLatin1_aae02, 1, some .boolean)
def mJ_checkIndex : xM := (yJ0_checkIndex_df160, cJ0_checkIndex_df160, 2, none)
def mJ_latinAt : xM := (yJ1_charAt_3b067, cJ1_charAt_3b067, 2, some .char)
def mJ_preCheck : xM := (yJ3_checkIndex_8e157, cJ3_checkIndex_8e157, 3, some .int)
theorem okJ_length : x_ok mJ_length := ⟨xw_626, by decide +kernel, ⟨by decide +kernel, by decide +kernel⟩, xw_105, by decide⟩
theorem okJ_charAt : x_ok mJ_charAt := ⟨xw_636, by decide +kernel, ⟨by decide +kernel, by decide +kernel⟩, xw_105, by decide⟩
theorem okJ_coder : x_ok mJ_coder := ⟨xw_630, by decide +kernel, ⟨by decide +kernel, by decide +kernel⟩, xw_105, by decide⟩
theorem okJ_isLatin1 : x_ok mJ_isLatin1 := ⟨xw_640, by decide +kernel, ⟨by decide +kernel, by decide +kernel⟩, xw_105, by decide⟩
theorem okJ_checkIndex : x_ok mJ_checkIndex := ⟨xw_646, by decide +kernel, ⟨by decide +kernel, by decide +kernel⟩, xw_105, by decide⟩
theorem okJ_latinAt : x_ok mJ_latinAt := ⟨xw_643, by decide +kernel, ⟨by decide +kernel, by decide +kernel⟩, xw_106, by decide⟩
theorem okJ_preCheck : x_ok mJ_preCheck := ⟨xw_651, by decide +kernel, ⟨by decide +kernel, by decide +kernel⟩, xw_107, by decide⟩
theorem cJ_preCheck : x_CS RJ0 1059 mJ_preCheck 3 := ⟨xw_649, xw_650, by decide +kernel, okJ_preCheck⟩
theorem cJ_coder : x_CV RJ0 335 mJ_coder 0 := ⟨xw_627, xw_628, xw_629, by decide +kernel, okJ_coder⟩
theorem cJ_isLatin1 : x_CV RJ0 492 mJ_isLatin1 0 := ⟨xw_637, xw_638, xw_639, by decide +kernel, okJ_isLatin1⟩
theorem cJ_latinAt : x_CS RJ0 495 mJ_latinAt 2 := ⟨xw_641, xw_642, by decide +kernel, okJ_latinAt⟩
theorem cJ_checkIndex : x_CS RJ1 9 mJ_checkIndex 2 := ⟨xw_644, xw_645, by decide +kernel, okJ_checkIndex⟩
theorem l_J_preCheck (G : xG) (d : Nat) (μ : xMu) (i n : Int32) (v : Value) (hv : v = .null ∨ v = .ref 950) (h1 : ¬ i < 0) (h2 : i < n) : Mx G mJ_preCheck d [.int i, .int n, v] μ (x_wi μ) (some i) := by
  refine mx_enter okJ_preCheck [some (.int i), some (.int n), some v] (by rcases hv with rfl | rfl <;> rfl) (by rcases hv with rfl | rfl <;> exact Nat.le_of_ble_eq_true rfl) ?_
  refine wx_blk (pc' := 1) (L' := [some (.int i), some (.int n), some v]) (st' := [.int i]) [.iload_n 0] (by decide +kernel) rfl rfl ?_
  have e1 : (some i : Option Int32) = if i < 0 then none else some i := by rw [if_neg h1]
  rw [e1]
  refine wx_if_lt 9 (off := 8) (by decide +kernel) (by decide) wx_none ?_
  refine wx_blk (pc' := 6) (L' := [some (.int i), some (.int n), some v]) (st' := [.int n, .int i]) [.iload_n 0, .iload_n 1] (by decide +kernel) rfl rfl ?_
  have e2 : (some i : Option Int32) = if i < n then some i else none := by rw [if_pos h2]
  rw [e2]
  refine wx_ic_lt 16 (off := 10) (by decide +kernel) (by decide) ?_ wx_none
  refine wx_blk (pc' := 17) (L' := [some (.int i), some (.int n), some v]) (st' := [.int i]) [.iload_n 0] (by decide +kernel) rfl rfl ?_
  exact wx_iret rfl rfl (by decide +kernel)
theorem l_J_checkIndex (G : xG) (d : Nat) (hd : 1 ≤ d) (μ : xMu) (i n : Int32) (h1 : ¬ i < 0) (h2 : i < n) : Mx G mJ_checkIndex d [.int i, .int n] μ (x_wu μ) (some ()) := by
  refine mx_enter okJ_checkIndex [some (.int i), some (.int n)] rfl (Nat.le_of_ble_eq_true rfl) ?_
  refine wx_blk (pc' := 2) (L' := [some (.int i), some (.int n)]) (st' := [.int n, .int i]) [.iload_n 0, .iload_n 1] (by decide +kernel) rfl rfl ?_
  refine wx_ssio xw_647 (by decide +kernel) (fun v hv => ?_)
  have e1 : (some () : Option Unit) = (some i).bind (fun _ => some ()) := rfl
  rw [e1]
  refine wx_callS (d1 := 0) (As := [.int i, .int n, v]) (rest := []) hd cJ_preCheck rfl (Nat.le_of_ble_eq_true rfl) (l_J_preCheck G 0 μ i n v hv h1 h2) rfl (by decide +kernel) (fun r => ?_)
  refine wx_blk (pc' := 9) (L' := [some (.int i), some (.int n)]) (st' := []) [.pop] (by decide +kernel) rfl rfl ?_
  exact wx_vret rfl rfl (by decide +kernel)
theorem l_J_coder (G : xG) (d : Nat) (μ : xMu) (i : Nat) (hi : i < 8) : Mx G mJ_coder d [.ref (910 + i)] μ (x_wi μ) (some 0) := by
  refine mx_enter okJ_coder [some (.ref (910 + i))] rfl (Nat.le_of_ble_eq_true rfl) ?_
  refine wx_scom xw_631 (by decide +kernel) ?_
  have e1 : (some (0 : Int32)) = if (1 : Int32) = 0 then none else some 0 := by decide
  rw [e1]
  refine wx_if_eq 13 (off := 10) (by decide +kernel) (by decide) wx_none ?_
  refine wx_blk (pc' := 7) (L' := [some (.ref (910 + i))]) (st' := [.ref (910 + i)]) [.aload_n 0] (by decide +kernel) rfl rfl ?_
  refine wx_scod hi xw_1728 (by decide +kernel) ?_
  refine wx_goto 14 (off := 4) (by decide +kernel) (by decide) ?_
  exact wx_nret rfl rfl (by decide) (by decide +kernel)
theorem l_J_isLatin1 (G : xG) (d : Nat) (μ : xMu) (i : Nat) (hi : i < 8) : Mx G mJ_isLatin1 d [.ref (910 + i)] μ (x_wi μ) (some 1) := by
  refine mx_enter okJ_isLatin1 [some (.ref (910 + i))] rfl (Nat.le_of_ble_eq_true rfl) ?_
  refine wx_scom xw_631 (by decide +kernel) ?_
  have e1 : (some (1 : Int32)) = if (1 : Int32) = 0 then none else some 1 := by decide
  rw [e1]
  refine wx_if_eq 17 (off := 14) (by decide +kernel) (by decide) wx_none ?_
  refine wx_blk (pc' := 7) (L' := [some (.ref (910 + i))]) (st' := [.ref (910 + i)]) [.aload_n 0] (by decide +kernel) rfl rfl ?_
  refine wx_scod hi xw_1728 (by decide +kernel) ?_
  have e2 : (some (1 : Int32)) = if (0 : Int32) = 0 then some 1 else none := by decide
  rw [e2]
  refine wx_if_ne 17 (off := 7) (by decide +kernel) (by decide) wx_none ?_
  refine wx_blk (pc' := 14) (L' := [some (.ref (910 + i))]) (st' := [.int 1]) [.iconst 1] (by decide +kernel) rfl rfl ?_
  refine wx_goto 18 (off := 4) (by decide +kernel) (by decide) ?_
  exact wx_zret rfl rfl (by decide) (by decide +kernel)
theorem l_J_length (G : xG) (d : Nat) (hd : 1 ≤ d) (μ : xMu) (i : Nat) (hi : i < 8) : Mx G mJ_length d [.ref (910 + i)] μ (x_wi μ) (some (nI (x_len.getD i 0))) := by
  refine mx_enter okJ_length [some (.ref (910 + i))] rfl (Nat.le_of_ble_eq_true rfl) ?_
  refine wx_blk (pc' := 1) (L' := [some (.ref (910 + i))]) (st' := [.ref (910 + i)]) [.aload_n 0] (by decide +kernel) rfl rfl ?_
  refine wx_sval hi xw_1727 (by decide +kernel) ?_
  refine wx_salen hi (by decide +kernel) ?_
  refine wx_blk (pc' := 6) (L' := [some (.ref (910 + i))]) (st' := [.ref (910 + i), .int (nI (x_len.getD i 0))]) [.aload_n 0] (by decide +kernel) rfl rfl ?_
  have e1 : (some (nI (x_len.getD i 0))) = (some (0 : Int32)).bind (fun z => some (nI (x_len.getD i 0) >>> (z &&& 31))) := by
    simp
  rw [e1]
  refine wx_callT (d1 := 0) (As := []) (rest := [.int (nI (x_len.getD i 0))]) hd hi rfl cJ_coder rfl (Nat.le_of_ble_eq_true rfl) (l_J_coder G 0 μ i hi) rfl (by decide +kernel) (fun z => ?_)
  refine wx_blk (pc' := 10) (L' := [some (.ref (910 + i))]) (st' := [.int (nI (x_len.getD i 0) >>> (z &&& 31))]) [.ishr] (by decide +kernel) rfl rfl ?_
  exact wx_iret rfl rfl (by decide +kernel)
theorem l_J_latinAt (G : xG) (d : Nat) (hd : 2 ≤ d) (μ : xMu) (i : Nat) (hi : i < 8) (j : Int32) (hj : vp_in j (x_len.getD i 0)) : Mx G mJ_latinAt d [.ref (930 + i), .int j] μ (x_wi μ) (some ((x_byt.getD i []).getD j.toNatClampNeg 0)) := by
  have hlen : x_len.getD i 0 < 2 ^ 31 := by
    have h : ∀ i, i < 8 → x_len.getD i 0 < 2 ^ 31 := by decide
    exact h i hi
  obtain ⟨k, hk, rfl⟩ := vp_in_of hj hlen
  have hb : ∀ i, i < 8 → ∀ k, k < x_len.getD i 0 → (((x_byt.getD i []).getD k 0 &&& 255).toUInt32 % 65536).toInt32 = (x_byt.getD i []).getD k 0 ∧ narrow .char (.int ((x_byt.getD i []).getD k 0)) = .int ((x_byt.getD i []).getD k 0) := by decide +kernel
  obtain ⟨hb1, hb2⟩ := hb i hi k hk
  have hcl : (nI k).toNatClampNeg = k := nI_clamp (by omega)
  refine mx_enter okJ_latinAt [some (.ref (930 + i)), some (.int (nI k))] rfl (Nat.le_of_ble_eq_true rfl) ?_
  refine wx_blk (pc' := 2) (L' := [some (.ref (930 + i)), some (.int (nI k))]) (st' := [.ref (930 + i), .int (nI k)]) [.iload_n 1, .aload_n 0] (by decide +kernel) rfl rfl ?_
  refine wx_salen hi (by decide +kernel) ?_
  rw [show ∀ x : Int32, some x = (some ()).bind (fun _ => some x) from fun _ => rfl]
  refine wx_callS (d1 := 1) (As := [.int (nI k), .int (nI (x_len.getD i 0))]) (rest := []) hd cJ_checkIndex rfl (Nat.le_of_ble_eq_true rfl) (l_J_checkIndex G 1 (Nat.le_refl 1) μ _ _ (nI_pos (by omega)) (nI_lt hk hlen)) rfl (by decide +kernel) (fun r => ?_)
  refine wx_blk (pc' := 8) (L' := [some (.ref (930 + i)), some (.int (nI k))]) (st' := [.int (nI k), .ref (930 + i)]) [.aload_n 0, .iload_n 1] (by decide +kernel) rfl rfl ?_
  refine wx_sbald hi hj (by decide +kernel) ?_
  rw [hcl]
  refine wx_blk (pc' := 14) (L' := [some (.ref (930 + i)), some (.int (nI k))]) (st' := [.int ((((x_byt.getD i []).getD k 0 &&& 255).toUInt32 % 65536).toInt32)]) [.sipush 255, .iand, .i2c] (by decide +kernel) rfl rfl ?_
  rw [hb1]
  exact wx_nret rfl rfl hb2 (by decide +kernel)
theorem l_J_charAt (G : xG) (d : Nat) (hd : 3 ≤ d) (μ : xMu) (i : Nat) (hi : i < 8) (j : Int32) (hj : vp_in j (x_len.getD i 0)) : Mx G mJ_charAt d [.ref (910 + i), .int j] μ (x_wi μ) (some ((x_byt.getD i []).getD j.toNatClampNeg 0)) := by
  have hlen : x_len.getD i 0 < 2 ^ 31 := by
    have h : ∀ i, i < 8 → x_len.getD i 0 < 2 ^ 31 := by decide
    exact h i hi
  have hb2 : narrow .char (.int ((x_byt.getD i []).getD j.toNatClampNeg 0)) = .int ((x_byt.getD i []).getD j.toNatClampNeg 0) := by
    obtain ⟨k, hk, rfl⟩ := vp_in_of hj hlen
    rw [nI_clamp (by omega)]
    have hb : ∀ i, i < 8 → ∀ k, k < x_len.getD i 0 → narrow .char (.int ((x_byt.getD i []).getD k 0)) = .int ((x_byt.getD i []).getD k 0) := by decide +kernel
    exact hb i hi k hk
  refine mx_enter okJ_charAt [some (.ref (910 + i)), some (.int j)] rfl (Nat.le_of_ble_eq_true rfl) ?_
  refine wx_blk (pc' := 1) (L' := [some (.ref (910 + i)), some (.int j)]) (st' := [.ref (910 + i)]) [.aload_n 0] (by decide +kernel) rfl rfl ?_
  have e0 : ∀ x : Int32, some x = (some (1 : Int32)).bind (fun z => if z = 0 then none else some x) := fun x => rfl
  rw [e0]
  refine wx_callT (d1 := 0) (As := []) (rest := []) (by omega) hi rfl cJ_isLatin1 rfl (Nat.le_of_ble_eq_true rfl) (l_J_isLatin1 G 0 μ i hi) rfl (by decide +kernel) (fun z => ?_)
  refine wx_if_eq 16 (off := 12) (by decide +kernel) (by decide) wx_none ?_
  refine wx_blk (pc' := 8) (L' := [some (.ref (910 + i)), some (.int j)]) (st' := [.ref (910 + i)]) [.aload_n 0] (by decide +kernel) rfl rfl ?_
  refine wx_sval hi xw_1727 (by decide +kernel) ?_
  refine wx_blk (pc' := 12) (L' := [some (.ref (910 + i)), some (.int j)]) (st' := [.int j, .ref (930 + i)]) [.iload_n 1] (by decide +kernel) rfl rfl ?_
  have h1 := l_J_latinAt G 2 (Nat.le_refl 2) μ i hi j hj
  generalize (x_byt.getD i []).getD j.toNatClampNeg 0 = y at h1 hb2 ⊢
  have e1 : (some y) = (some y).bind (fun z => if z = y then some y else none) := by simp
  rw [e1]
  refine wx_callS (d1 := 2) (As := [.ref (930 + i), .int j]) (rest := []) (by omega) cJ_latinAt rfl (Nat.le_of_ble_eq_true rfl) h1 rfl (by decide +kernel) (fun z => ?_)
  intro a ha
  split at ha
  · next hz =>
    cases ha
    subst hz
    exact wx_nret rfl rfl hb2 (by decide +kernel) _ rfl
  · cases ha
theorem wx_slen {G : xG} {M : xM} {d pc : Nat} {L : List (Option Value)} {st : List Value} {μ : xMu} {α : Type} {w : α → Option Value × xMu} {q idx : Nat} {f : Int32 → Option α} (hd1 : 3 ≤ d) (hw : Cond.methodLink M.1.cls idx mJ_length.1 ∈ x_ws) (hrest : (st.map fun v => v.category).sum ≤ 8) (hd : decode M.2.1 pc = .ok (.invokevirtual idx, 3)) (kk : ∀ v, Wx G M d (pc + 3) L (.int v :: st) μ w (f v)) :
    Wx G M d pc L (.ref q :: st) μ w ((x_slen q).bind f) := by
  intro a ho
  obtain ⟨b, hb, hf⟩ := Option.bind_eq_some_iff.mp ho
  obtain ⟨h1, h2⟩ := x_bt hb
  simp only [Bool.and_eq_true, decide_eq_true_eq] at h1
  obtain ⟨i, rfl⟩ : ∃ i, q = 910 + i := ⟨q - 910, by omega⟩
  have hi : i < 8 := by omega
  rw [show 910 + i - 910 = i by omega] at h2
  have h3 := l_J_length G 1 (Nat.le_refl 1) μ i hi
  rw [h2] at h3
  have h4 : Wx G M d pc L (.ref (910 + i) :: st) μ w ((some b).bind f) := wx_callT (d1 := 1) (As := []) (rest := st) (by omega) hi rfl (n := 0) ⟨hw, xw_624, xw_625, by decide +kernel, okJ_length⟩ rfl hrest h3 rfl hd kk
  exact h4 a hf
theorem wx_schar {G : xG} {M : xM} {d pc : Nat} {L : List (Option Value)} {st : List Value} {μ : xMu} {α : Type} {w : α → Option Value × xMu} {q idx : Nat} {j : Int32} {f : Int32 → Option α} (hd1 : 4 ≤ d) (hw : Cond.methodLink M.1.cls idx mJ_charAt.1 ∈ x_ws) (hrest : (st.map fun v => v.category).sum ≤ 8) (hd : decode M.2.1 pc = .ok (.invokevirtual idx, 3)) (kk : ∀ v, Wx G M d (pc + 3) L (.int v :: st) μ w (f v)) :
    Wx G M d pc L (.int j :: .ref q :: st) μ w ((x_schar q j).bind f) := by
  intro a ho
  obtain ⟨b, hb, hf⟩ := Option.bind_eq_some_iff.mp ho
  obtain ⟨h1, h2⟩ := x_bt hb
  simp only [Bool.and_eq_true, decide_eq_true_eq] at h1
  obtain ⟨i, rfl⟩ : ∃ i, q = 910 + i := ⟨q - 910, by omega⟩
  have hi : i < 8 := by omega
  rw [show 910 + i - 910 = i by omega] at h1 h2
  have h3 := l_J_charAt G 3 (Nat.le_refl 3) μ i hi j (x_in_of h1.2)
  rw [h2] at h3
  have h4 : Wx G M d pc L (.int j :: .ref (910 + i) :: st) μ w ((some b).bind f) := wx_callT (d1 := 3) (As := [.int j]) (rest := st) (by omega) hi rfl (n := 1) ⟨hw, xw_634, xw_635, by decide +kernel, okJ_charAt⟩ rfl hrest h3 rfl hd kk
  exact h4 a hf
end
