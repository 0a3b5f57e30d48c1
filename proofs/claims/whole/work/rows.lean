section
-- ===== PART A: goes FIRST, ahead of the names: the tables' words, and 'selects' of the private methods out of them =====
/-- a private method of a class that the tables say can be made, by its rows of tables_1 -/
def lw_okq (q : MethodName × Nat) : Prop := (q.1.cls ≠ "java/lang/invoke/MethodHandle" ∧ q.1.cls ≠ "java/lang/invoke/VarHandle") ∧ Cond.instantiable q.1.cls q.2 ∈ tables_1 ∧ Cond.privateMethod q.1 ∈ tables_1 ∧ Cond.instanceMethod q.1 ∈ tables_1
theorem lw_p0 : lw_okq (⟨"WakingLayers", "finding", "(I)I"⟩, 11) := ⟨⟨by decide +kernel, by decide +kernel⟩, List.mem_of_getElem? (i := 21) (by decide +kernel), List.mem_of_getElem? (i := 425) (by decide +kernel), List.mem_of_getElem? (i := 426) (by decide +kernel)⟩
theorem lw_p1 : lw_okq (⟨"WakingLayers", "withoutFinding", "(I)I"⟩, 11) := ⟨⟨by decide +kernel, by decide +kernel⟩, List.mem_of_getElem? (i := 21) (by decide +kernel), List.mem_of_getElem? (i := 434) (by decide +kernel), List.mem_of_getElem? (i := 435) (by decide +kernel)⟩
theorem lw_p2 : lw_okq (⟨"WakingLayers$Tape", "endOfRun", "(CC)I"⟩, 6) := ⟨⟨by decide +kernel, by decide +kernel⟩, List.mem_of_getElem? (i := 52) (by decide +kernel), List.mem_of_getElem? (i := 513) (by decide +kernel), List.mem_of_getElem? (i := 514) (by decide +kernel)⟩
theorem lw_p3 : lw_okq (⟨"WakingLayers$Tape", "valueNumber", "()V"⟩, 6) := ⟨⟨by decide +kernel, by decide +kernel⟩, List.mem_of_getElem? (i := 52) (by decide +kernel), List.mem_of_getElem? (i := 517) (by decide +kernel), List.mem_of_getElem? (i := 518) (by decide +kernel)⟩
theorem lw_p4 : lw_okq (⟨"WakingLayers$Reader", "readTelling", "()V"⟩, 5) := ⟨⟨by decide +kernel, by decide +kernel⟩, List.mem_of_getElem? (i := 235) (by decide +kernel), List.mem_of_getElem? (i := 525) (by decide +kernel), List.mem_of_getElem? (i := 526) (by decide +kernel)⟩
theorem lw_p5 : lw_okq (⟨"WakingLayers$Tape", "matches", "(Ljava/lang/String;I)Z"⟩, 6) := ⟨⟨by decide +kernel, by decide +kernel⟩, List.mem_of_getElem? (i := 52) (by decide +kernel), List.mem_of_getElem? (i := 582) (by decide +kernel), List.mem_of_getElem? (i := 583) (by decide +kernel)⟩
theorem lw_p6 : lw_okq (⟨"WakingLayers$Reader", "readKind", "()V"⟩, 5) := ⟨⟨by decide +kernel, by decide +kernel⟩, List.mem_of_getElem? (i := 235) (by decide +kernel), List.mem_of_getElem? (i := 586) (by decide +kernel), List.mem_of_getElem? (i := 587) (by decide +kernel)⟩
theorem lw_p7 : lw_okq (⟨"WakingLayers$Reader", "takeFirstWord", "(II)V"⟩, 5) := ⟨⟨by decide +kernel, by decide +kernel⟩, List.mem_of_getElem? (i := 235) (by decide +kernel), List.mem_of_getElem? (i := 590) (by decide +kernel), List.mem_of_getElem? (i := 591) (by decide +kernel)⟩
theorem lw_p8 : lw_okq (⟨"WakingLayers$Reader", "refuse", "(I)V"⟩, 5) := ⟨⟨by decide +kernel, by decide +kernel⟩, List.mem_of_getElem? (i := 235) (by decide +kernel), List.mem_of_getElem? (i := 594) (by decide +kernel), List.mem_of_getElem? (i := 595) (by decide +kernel)⟩
theorem lw_p9 : lw_okq (⟨"WakingLayers$Reader", "takeNumber", "(I)I"⟩, 5) := ⟨⟨by decide +kernel, by decide +kernel⟩, List.mem_of_getElem? (i := 235) (by decide +kernel), List.mem_of_getElem? (i := 608) (by decide +kernel), List.mem_of_getElem? (i := 609) (by decide +kernel)⟩
theorem lw_p10 : lw_okq (⟨"WakingLayers$Reader", "takeSign", "(C)V"⟩, 5) := ⟨⟨by decide +kernel, by decide +kernel⟩, List.mem_of_getElem? (i := 235) (by decide +kernel), List.mem_of_getElem? (i := 620) (by decide +kernel), List.mem_of_getElem? (i := 621) (by decide +kernel)⟩
theorem lw_p11 : lw_okq (⟨"WakingLayers$Reader", "readThing", "()V"⟩, 5) := ⟨⟨by decide +kernel, by decide +kernel⟩, List.mem_of_getElem? (i := 235) (by decide +kernel), List.mem_of_getElem? (i := 632) (by decide +kernel), List.mem_of_getElem? (i := 633) (by decide +kernel)⟩
theorem lw_p12 : lw_okq (⟨"WakingLayers$Reader", "readLayer", "()V"⟩, 5) := ⟨⟨by decide +kernel, by decide +kernel⟩, List.mem_of_getElem? (i := 235) (by decide +kernel), List.mem_of_getElem? (i := 640) (by decide +kernel), List.mem_of_getElem? (i := 641) (by decide +kernel)⟩
theorem lw_p13 : lw_okq (⟨"WakingLayers$Reader", "takeWord", "(Ljava/lang/String;)I"⟩, 5) := ⟨⟨by decide +kernel, by decide +kernel⟩, List.mem_of_getElem? (i := 235) (by decide +kernel), List.mem_of_getElem? (i := 645) (by decide +kernel), List.mem_of_getElem? (i := 646) (by decide +kernel)⟩
theorem lw_p14 : lw_okq (⟨"WakingLayers$Reader", "readTest", "(LWakingLayers$Layer;)V"⟩, 5) := ⟨⟨by decide +kernel, by decide +kernel⟩, List.mem_of_getElem? (i := 235) (by decide +kernel), List.mem_of_getElem? (i := 653) (by decide +kernel), List.mem_of_getElem? (i := 654) (by decide +kernel)⟩
theorem lw_p15 : lw_okq (⟨"WakingLayers$Reader", "readNeedsAndBars", "(LWakingLayers$Layer;)V"⟩, 5) := ⟨⟨by decide +kernel, by decide +kernel⟩, List.mem_of_getElem? (i := 235) (by decide +kernel), List.mem_of_getElem? (i := 661) (by decide +kernel), List.mem_of_getElem? (i := 662) (by decide +kernel)⟩
def lw_privs_1 : List (MethodName × Nat) := [(⟨"WakingLayers", "finding", "(I)I"⟩, 11), (⟨"WakingLayers", "withoutFinding", "(I)I"⟩, 11), (⟨"WakingLayers$Tape", "endOfRun", "(CC)I"⟩, 6), (⟨"WakingLayers$Tape", "valueNumber", "()V"⟩, 6), (⟨"WakingLayers$Reader", "readTelling", "()V"⟩, 5), (⟨"WakingLayers$Tape", "matches", "(Ljava/lang/String;I)Z"⟩, 6), (⟨"WakingLayers$Reader", "readKind", "()V"⟩, 5), (⟨"WakingLayers$Reader", "takeFirstWord", "(II)V"⟩, 5), (⟨"WakingLayers$Reader", "refuse", "(I)V"⟩, 5), (⟨"WakingLayers$Reader", "takeNumber", "(I)I"⟩, 5), (⟨"WakingLayers$Reader", "takeSign", "(C)V"⟩, 5), (⟨"WakingLayers$Reader", "readThing", "()V"⟩, 5), (⟨"WakingLayers$Reader", "readLayer", "()V"⟩, 5), (⟨"WakingLayers$Reader", "takeWord", "(Ljava/lang/String;)I"⟩, 5), (⟨"WakingLayers$Reader", "readTest", "(LWakingLayers$Layer;)V"⟩, 5), (⟨"WakingLayers$Reader", "readNeedsAndBars", "(LWakingLayers$Layer;)V"⟩, 5)]
theorem lw_r1 : ∀ q ∈ lw_privs_1, lw_okq q := List.forall_mem_cons.mpr ⟨lw_p0, List.forall_mem_cons.mpr ⟨lw_p1, List.forall_mem_cons.mpr ⟨lw_p2, List.forall_mem_cons.mpr ⟨lw_p3, List.forall_mem_cons.mpr ⟨lw_p4, List.forall_mem_cons.mpr ⟨lw_p5, List.forall_mem_cons.mpr ⟨lw_p6, List.forall_mem_cons.mpr ⟨lw_p7, List.forall_mem_cons.mpr ⟨lw_p8, List.forall_mem_cons.mpr ⟨lw_p9, List.forall_mem_cons.mpr ⟨lw_p10, List.forall_mem_cons.mpr ⟨lw_p11, List.forall_mem_cons.mpr ⟨lw_p12, List.forall_mem_cons.mpr ⟨lw_p13, List.forall_mem_cons.mpr ⟨lw_p14, List.forall_mem_cons.mpr ⟨lw_p15, fun _ h => absurd h List.not_mem_nil⟩⟩⟩⟩⟩⟩⟩⟩⟩⟩⟩⟩⟩⟩⟩⟩
theorem lw_p16 : lw_okq (⟨"WakingLayers$Reader", "readBody", "()V"⟩, 5) := ⟨⟨by decide +kernel, by decide +kernel⟩, List.mem_of_getElem? (i := 235) (by decide +kernel), List.mem_of_getElem? (i := 667) (by decide +kernel), List.mem_of_getElem? (i := 668) (by decide +kernel)⟩
theorem lw_p17 : lw_okq (⟨"WakingLayers$Reader", "takeOwner", "()I"⟩, 5) := ⟨⟨by decide +kernel, by decide +kernel⟩, List.mem_of_getElem? (i := 235) (by decide +kernel), List.mem_of_getElem? (i := 671) (by decide +kernel), List.mem_of_getElem? (i := 672) (by decide +kernel)⟩
theorem lw_p18 : lw_okq (⟨"WakingLayers$Reader", "readAct", "(LWakingLayers$Body;)V"⟩, 5) := ⟨⟨by decide +kernel, by decide +kernel⟩, List.mem_of_getElem? (i := 235) (by decide +kernel), List.mem_of_getElem? (i := 681) (by decide +kernel), List.mem_of_getElem? (i := 682) (by decide +kernel)⟩
theorem lw_p19 : lw_okq (⟨"WakingLayers$Reader", "refuseUnwoken", "()V"⟩, 5) := ⟨⟨by decide +kernel, by decide +kernel⟩, List.mem_of_getElem? (i := 235) (by decide +kernel), List.mem_of_getElem? (i := 686) (by decide +kernel), List.mem_of_getElem? (i := 687) (by decide +kernel)⟩
theorem lw_p20 : lw_okq (⟨"WakingLayers$Circumstances", "awakeUnasked", "()I"⟩, 6) := ⟨⟨by decide +kernel, by decide +kernel⟩, List.mem_of_getElem? (i := 257) (by decide +kernel), List.mem_of_getElem? (i := 733) (by decide +kernel), List.mem_of_getElem? (i := 734) (by decide +kernel)⟩
theorem lw_p21 : lw_okq (⟨"WakingLayers$Rows", "gatherFitting", "(II)V"⟩, 5) := ⟨⟨by decide +kernel, by decide +kernel⟩, List.mem_of_getElem? (i := 282) (by decide +kernel), List.mem_of_getElem? (i := 818) (by decide +kernel), List.mem_of_getElem? (i := 819) (by decide +kernel)⟩
theorem lw_p22 : lw_okq (⟨"WakingLayers$Rows", "weight", "(II)I"⟩, 5) := ⟨⟨by decide +kernel, by decide +kernel⟩, List.mem_of_getElem? (i := 282) (by decide +kernel), List.mem_of_getElem? (i := 826) (by decide +kernel), List.mem_of_getElem? (i := 827) (by decide +kernel)⟩
theorem lw_p23 : lw_okq (⟨"WakingLayers$Rows", "takeHeaviest", "()I"⟩, 5) := ⟨⟨by decide +kernel, by decide +kernel⟩, List.mem_of_getElem? (i := 282) (by decide +kernel), List.mem_of_getElem? (i := 840) (by decide +kernel), List.mem_of_getElem? (i := 841) (by decide +kernel)⟩
theorem lw_p24 : lw_okq (⟨"WakingLayers$Rows", "addBodies", "([III)I"⟩, 5) := ⟨⟨by decide +kernel, by decide +kernel⟩, List.mem_of_getElem? (i := 282) (by decide +kernel), List.mem_of_getElem? (i := 844) (by decide +kernel), List.mem_of_getElem? (i := 845) (by decide +kernel)⟩
theorem lw_p25 : lw_okq (⟨"WakingLayers$Rows", "isEnded", "([II)Z"⟩, 5) := ⟨⟨by decide +kernel, by decide +kernel⟩, List.mem_of_getElem? (i := 282) (by decide +kernel), List.mem_of_getElem? (i := 848) (by decide +kernel), List.mem_of_getElem? (i := 849) (by decide +kernel)⟩
theorem lw_p26 : lw_okq (⟨"WakingLayers", "isCall", "(III)Z"⟩, 11) := ⟨⟨by decide +kernel, by decide +kernel⟩, List.mem_of_getElem? (i := 21) (by decide +kernel), List.mem_of_getElem? (i := 856) (by decide +kernel), List.mem_of_getElem? (i := 857) (by decide +kernel)⟩
theorem lw_p27 : lw_okq (⟨"WakingLayers$Runner", "callAt", "(IIII)I"⟩, 9) := ⟨⟨by decide +kernel, by decide +kernel⟩, List.mem_of_getElem? (i := 304) (by decide +kernel), List.mem_of_getElem? (i := 865) (by decide +kernel), List.mem_of_getElem? (i := 866) (by decide +kernel)⟩
theorem lw_p28 : lw_okq (⟨"WakingLayers$Runner", "runFrom", "(III)I"⟩, 9) := ⟨⟨by decide +kernel, by decide +kernel⟩, List.mem_of_getElem? (i := 304) (by decide +kernel), List.mem_of_getElem? (i := 871) (by decide +kernel), List.mem_of_getElem? (i := 872) (by decide +kernel)⟩
theorem lw_p29 : lw_okq (⟨"WakingLayers$Runner", "noteBegun", "(I)V"⟩, 9) := ⟨⟨by decide +kernel, by decide +kernel⟩, List.mem_of_getElem? (i := 304) (by decide +kernel), List.mem_of_getElem? (i := 875) (by decide +kernel), List.mem_of_getElem? (i := 876) (by decide +kernel)⟩
theorem lw_p30 : lw_okq (⟨"WakingLayers$Runner", "doActs", "(III)I"⟩, 9) := ⟨⟨by decide +kernel, by decide +kernel⟩, List.mem_of_getElem? (i := 304) (by decide +kernel), List.mem_of_getElem? (i := 880) (by decide +kernel), List.mem_of_getElem? (i := 881) (by decide +kernel)⟩
theorem lw_p31 : lw_okq (⟨"WakingLayers$Runner", "doAct", "(LWakingLayers$Body;IIII)I"⟩, 9) := ⟨⟨by decide +kernel, by decide +kernel⟩, List.mem_of_getElem? (i := 304) (by decide +kernel), List.mem_of_getElem? (i := 884) (by decide +kernel), List.mem_of_getElem? (i := 885) (by decide +kernel)⟩
def lw_privs_2 : List (MethodName × Nat) := [(⟨"WakingLayers$Reader", "readBody", "()V"⟩, 5), (⟨"WakingLayers$Reader", "takeOwner", "()I"⟩, 5), (⟨"WakingLayers$Reader", "readAct", "(LWakingLayers$Body;)V"⟩, 5), (⟨"WakingLayers$Reader", "refuseUnwoken", "()V"⟩, 5), (⟨"WakingLayers$Circumstances", "awakeUnasked", "()I"⟩, 6), (⟨"WakingLayers$Rows", "gatherFitting", "(II)V"⟩, 5), (⟨"WakingLayers$Rows", "weight", "(II)I"⟩, 5), (⟨"WakingLayers$Rows", "takeHeaviest", "()I"⟩, 5), (⟨"WakingLayers$Rows", "addBodies", "([III)I"⟩, 5), (⟨"WakingLayers$Rows", "isEnded", "([II)Z"⟩, 5), (⟨"WakingLayers", "isCall", "(III)Z"⟩, 11), (⟨"WakingLayers$Runner", "callAt", "(IIII)I"⟩, 9), (⟨"WakingLayers$Runner", "runFrom", "(III)I"⟩, 9), (⟨"WakingLayers$Runner", "noteBegun", "(I)V"⟩, 9), (⟨"WakingLayers$Runner", "doActs", "(III)I"⟩, 9), (⟨"WakingLayers$Runner", "doAct", "(LWakingLayers$Body;IIII)I"⟩, 9)]
theorem lw_r2 : ∀ q ∈ lw_privs_2, lw_okq q := List.forall_mem_cons.mpr ⟨lw_p16, List.forall_mem_cons.mpr ⟨lw_p17, List.forall_mem_cons.mpr ⟨lw_p18, List.forall_mem_cons.mpr ⟨lw_p19, List.forall_mem_cons.mpr ⟨lw_p20, List.forall_mem_cons.mpr ⟨lw_p21, List.forall_mem_cons.mpr ⟨lw_p22, List.forall_mem_cons.mpr ⟨lw_p23, List.forall_mem_cons.mpr ⟨lw_p24, List.forall_mem_cons.mpr ⟨lw_p25, List.forall_mem_cons.mpr ⟨lw_p26, List.forall_mem_cons.mpr ⟨lw_p27, List.forall_mem_cons.mpr ⟨lw_p28, List.forall_mem_cons.mpr ⟨lw_p29, List.forall_mem_cons.mpr ⟨lw_p30, List.forall_mem_cons.mpr ⟨lw_p31, fun _ h => absurd h List.not_mem_nil⟩⟩⟩⟩⟩⟩⟩⟩⟩⟩⟩⟩⟩⟩⟩⟩
theorem lw_p32 : lw_okq (⟨"WakingLayers$Runner", "wokenThing", "(II)I"⟩, 9) := ⟨⟨by decide +kernel, by decide +kernel⟩, List.mem_of_getElem? (i := 304) (by decide +kernel), List.mem_of_getElem? (i := 889) (by decide +kernel), List.mem_of_getElem? (i := 890) (by decide +kernel)⟩
theorem lw_p33 : lw_okq (⟨"WakingLayers$Runner", "runBehind", "(III)I"⟩, 9) := ⟨⟨by decide +kernel, by decide +kernel⟩, List.mem_of_getElem? (i := 304) (by decide +kernel), List.mem_of_getElem? (i := 895) (by decide +kernel), List.mem_of_getElem? (i := 896) (by decide +kernel)⟩
theorem lw_p34 : lw_okq (⟨"WakingLayers$SmallWorld", "factsOfWorld", "(II)[I"⟩, 5) := ⟨⟨by decide +kernel, by decide +kernel⟩, List.mem_of_getElem? (i := 339) (by decide +kernel), List.mem_of_getElem? (i := 926) (by decide +kernel), List.mem_of_getElem? (i := 927) (by decide +kernel)⟩
theorem lw_p35 : lw_okq (⟨"WakingLayers$Asker", "sizeOfSpanned", "(I)I"⟩, 4) := ⟨⟨by decide +kernel, by decide +kernel⟩, List.mem_of_getElem? (i := 361) (by decide +kernel), List.mem_of_getElem? (i := 989) (by decide +kernel), List.mem_of_getElem? (i := 990) (by decide +kernel)⟩
theorem lw_p36 : lw_okq (⟨"WakingLayers$Asker", "leave", "(I)V"⟩, 4) := ⟨⟨by decide +kernel, by decide +kernel⟩, List.mem_of_getElem? (i := 361) (by decide +kernel), List.mem_of_getElem? (i := 993) (by decide +kernel), List.mem_of_getElem? (i := 994) (by decide +kernel)⟩
theorem lw_p37 : lw_okq (⟨"WakingLayers$Asker", "lentSize", "(I)I"⟩, 4) := ⟨⟨by decide +kernel, by decide +kernel⟩, List.mem_of_getElem? (i := 361) (by decide +kernel), List.mem_of_getElem? (i := 997) (by decide +kernel), List.mem_of_getElem? (i := 998) (by decide +kernel)⟩
theorem lw_p38 : lw_okq (⟨"WakingLayers$Asker", "sizeOfOwned", "(I)I"⟩, 4) := ⟨⟨by decide +kernel, by decide +kernel⟩, List.mem_of_getElem? (i := 361) (by decide +kernel), List.mem_of_getElem? (i := 1002) (by decide +kernel), List.mem_of_getElem? (i := 1003) (by decide +kernel)⟩
theorem lw_p39 : lw_okq (⟨"WakingLayers$Asker", "sizeOfAsked", "(I)I"⟩, 4) := ⟨⟨by decide +kernel, by decide +kernel⟩, List.mem_of_getElem? (i := 361) (by decide +kernel), List.mem_of_getElem? (i := 1006) (by decide +kernel), List.mem_of_getElem? (i := 1007) (by decide +kernel)⟩
theorem lw_p40 : lw_okq (⟨"WakingLayers$Asker", "markOfAsked", "(I)I"⟩, 4) := ⟨⟨by decide +kernel, by decide +kernel⟩, List.mem_of_getElem? (i := 361) (by decide +kernel), List.mem_of_getElem? (i := 1014) (by decide +kernel), List.mem_of_getElem? (i := 1015) (by decide +kernel)⟩
theorem lw_p41 : lw_okq (⟨"WakingLayers$Asker", "lentMark", "(I)I"⟩, 4) := ⟨⟨by decide +kernel, by decide +kernel⟩, List.mem_of_getElem? (i := 361) (by decide +kernel), List.mem_of_getElem? (i := 1018) (by decide +kernel), List.mem_of_getElem? (i := 1019) (by decide +kernel)⟩
theorem lw_p42 : lw_okq (⟨"WakingLayers$Asker", "markOfEver", "(I)I"⟩, 4) := ⟨⟨by decide +kernel, by decide +kernel⟩, List.mem_of_getElem? (i := 361) (by decide +kernel), List.mem_of_getElem? (i := 1027) (by decide +kernel), List.mem_of_getElem? (i := 1028) (by decide +kernel)⟩
theorem lw_p43 : lw_okq (⟨"WakingLayers$Asker", "sizeOfNeeding", "(I)I"⟩, 4) := ⟨⟨by decide +kernel, by decide +kernel⟩, List.mem_of_getElem? (i := 361) (by decide +kernel), List.mem_of_getElem? (i := 1032) (by decide +kernel), List.mem_of_getElem? (i := 1033) (by decide +kernel)⟩
theorem lw_p44 : lw_okq (⟨"WakingLayersModel", "finding", "(I)I"⟩, 72) := ⟨⟨by decide +kernel, by decide +kernel⟩, List.mem_of_getElem? (i := 1070) (by decide +kernel), List.mem_of_getElem? (i := 1306) (by decide +kernel), List.mem_of_getElem? (i := 1307) (by decide +kernel)⟩
theorem lw_p45 : lw_okq (⟨"WakingLayersModel", "step", "()V"⟩, 72) := ⟨⟨by decide +kernel, by decide +kernel⟩, List.mem_of_getElem? (i := 1070) (by decide +kernel), List.mem_of_getElem? (i := 1334) (by decide +kernel), List.mem_of_getElem? (i := 1335) (by decide +kernel)⟩
theorem lw_p46 : lw_okq (⟨"WakingLayersModel", "byteAt", "(I)I"⟩, 72) := ⟨⟨by decide +kernel, by decide +kernel⟩, List.mem_of_getElem? (i := 1070) (by decide +kernel), List.mem_of_getElem? (i := 1338) (by decide +kernel), List.mem_of_getElem? (i := 1339) (by decide +kernel)⟩
theorem lw_p47 : lw_okq (⟨"WakingLayersModel", "word", "()J"⟩, 72) := ⟨⟨by decide +kernel, by decide +kernel⟩, List.mem_of_getElem? (i := 1070) (by decide +kernel), List.mem_of_getElem? (i := 1352) (by decide +kernel), List.mem_of_getElem? (i := 1353) (by decide +kernel)⟩
def lw_privs_3 : List (MethodName × Nat) := [(⟨"WakingLayers$Runner", "wokenThing", "(II)I"⟩, 9), (⟨"WakingLayers$Runner", "runBehind", "(III)I"⟩, 9), (⟨"WakingLayers$SmallWorld", "factsOfWorld", "(II)[I"⟩, 5), (⟨"WakingLayers$Asker", "sizeOfSpanned", "(I)I"⟩, 4), (⟨"WakingLayers$Asker", "leave", "(I)V"⟩, 4), (⟨"WakingLayers$Asker", "lentSize", "(I)I"⟩, 4), (⟨"WakingLayers$Asker", "sizeOfOwned", "(I)I"⟩, 4), (⟨"WakingLayers$Asker", "sizeOfAsked", "(I)I"⟩, 4), (⟨"WakingLayers$Asker", "markOfAsked", "(I)I"⟩, 4), (⟨"WakingLayers$Asker", "lentMark", "(I)I"⟩, 4), (⟨"WakingLayers$Asker", "markOfEver", "(I)I"⟩, 4), (⟨"WakingLayers$Asker", "sizeOfNeeding", "(I)I"⟩, 4), (⟨"WakingLayersModel", "finding", "(I)I"⟩, 72), (⟨"WakingLayersModel", "step", "()V"⟩, 72), (⟨"WakingLayersModel", "byteAt", "(I)I"⟩, 72), (⟨"WakingLayersModel", "word", "()J"⟩, 72)]
theorem lw_r3 : ∀ q ∈ lw_privs_3, lw_okq q := List.forall_mem_cons.mpr ⟨lw_p32, List.forall_mem_cons.mpr ⟨lw_p33, List.forall_mem_cons.mpr ⟨lw_p34, List.forall_mem_cons.mpr ⟨lw_p35, List.forall_mem_cons.mpr ⟨lw_p36, List.forall_mem_cons.mpr ⟨lw_p37, List.forall_mem_cons.mpr ⟨lw_p38, List.forall_mem_cons.mpr ⟨lw_p39, List.forall_mem_cons.mpr ⟨lw_p40, List.forall_mem_cons.mpr ⟨lw_p41, List.forall_mem_cons.mpr ⟨lw_p42, List.forall_mem_cons.mpr ⟨lw_p43, List.forall_mem_cons.mpr ⟨lw_p44, List.forall_mem_cons.mpr ⟨lw_p45, List.forall_mem_cons.mpr ⟨lw_p46, List.forall_mem_cons.mpr ⟨lw_p47, fun _ h => absurd h List.not_mem_nil⟩⟩⟩⟩⟩⟩⟩⟩⟩⟩⟩⟩⟩⟩⟩⟩
theorem lw_p48 : lw_okq (⟨"WakingLayersModel", "bad", "(I)V"⟩, 72) := ⟨⟨by decide +kernel, by decide +kernel⟩, List.mem_of_getElem? (i := 1070) (by decide +kernel), List.mem_of_getElem? (i := 1360) (by decide +kernel), List.mem_of_getElem? (i := 1361) (by decide +kernel)⟩
theorem lw_p49 : lw_okq (⟨"WakingLayersModel", "must", "(Z)V"⟩, 72) := ⟨⟨by decide +kernel, by decide +kernel⟩, List.mem_of_getElem? (i := 1070) (by decide +kernel), List.mem_of_getElem? (i := 1364) (by decide +kernel), List.mem_of_getElem? (i := 1365) (by decide +kernel)⟩
theorem lw_p50 : lw_okq (⟨"WakingLayersModel", "readKind", "()V"⟩, 72) := ⟨⟨by decide +kernel, by decide +kernel⟩, List.mem_of_getElem? (i := 1070) (by decide +kernel), List.mem_of_getElem? (i := 1368) (by decide +kernel), List.mem_of_getElem? (i := 1369) (by decide +kernel)⟩
theorem lw_p51 : lw_okq (⟨"WakingLayersModel", "numberTo", "(I)I"⟩, 72) := ⟨⟨by decide +kernel, by decide +kernel⟩, List.mem_of_getElem? (i := 1070) (by decide +kernel), List.mem_of_getElem? (i := 1373) (by decide +kernel), List.mem_of_getElem? (i := 1374) (by decide +kernel)⟩
theorem lw_p52 : lw_okq (⟨"WakingLayersModel", "readThing", "()V"⟩, 72) := ⟨⟨by decide +kernel, by decide +kernel⟩, List.mem_of_getElem? (i := 1070) (by decide +kernel), List.mem_of_getElem? (i := 1377) (by decide +kernel), List.mem_of_getElem? (i := 1378) (by decide +kernel)⟩
theorem lw_p53 : lw_okq (⟨"WakingLayersModel", "readLayer", "()V"⟩, 72) := ⟨⟨by decide +kernel, by decide +kernel⟩, List.mem_of_getElem? (i := 1070) (by decide +kernel), List.mem_of_getElem? (i := 1381) (by decide +kernel), List.mem_of_getElem? (i := 1382) (by decide +kernel)⟩
theorem lw_p54 : lw_okq (⟨"WakingLayersModel", "sortOfWord", "()I"⟩, 72) := ⟨⟨by decide +kernel, by decide +kernel⟩, List.mem_of_getElem? (i := 1070) (by decide +kernel), List.mem_of_getElem? (i := 1385) (by decide +kernel), List.mem_of_getElem? (i := 1386) (by decide +kernel)⟩
theorem lw_p55 : lw_okq (⟨"WakingLayersModel", "is", "(I)Z"⟩, 72) := ⟨⟨by decide +kernel, by decide +kernel⟩, List.mem_of_getElem? (i := 1070) (by decide +kernel), List.mem_of_getElem? (i := 1392) (by decide +kernel), List.mem_of_getElem? (i := 1393) (by decide +kernel)⟩
theorem lw_p56 : lw_okq (⟨"WakingLayersModel", "readBody", "()V"⟩, 72) := ⟨⟨by decide +kernel, by decide +kernel⟩, List.mem_of_getElem? (i := 1070) (by decide +kernel), List.mem_of_getElem? (i := 1398) (by decide +kernel), List.mem_of_getElem? (i := 1399) (by decide +kernel)⟩
theorem lw_p57 : lw_okq (⟨"WakingLayersModel", "wayOfWord", "()I"⟩, 72) := ⟨⟨by decide +kernel, by decide +kernel⟩, List.mem_of_getElem? (i := 1070) (by decide +kernel), List.mem_of_getElem? (i := 1403) (by decide +kernel), List.mem_of_getElem? (i := 1404) (by decide +kernel)⟩
theorem lw_p58 : lw_okq (⟨"WakingLayersModel", "actOfWord", "(I)I"⟩, 72) := ⟨⟨by decide +kernel, by decide +kernel⟩, List.mem_of_getElem? (i := 1070) (by decide +kernel), List.mem_of_getElem? (i := 1411) (by decide +kernel), List.mem_of_getElem? (i := 1412) (by decide +kernel)⟩
theorem lw_p59 : lw_okq (⟨"WakingLayersModel", "readAct", "(I)V"⟩, 72) := ⟨⟨by decide +kernel, by decide +kernel⟩, List.mem_of_getElem? (i := 1070) (by decide +kernel), List.mem_of_getElem? (i := 1422) (by decide +kernel), List.mem_of_getElem? (i := 1423) (by decide +kernel)⟩
theorem lw_p60 : lw_okq (⟨"WakingLayersModel", "isLayer", "(I)Z"⟩, 72) := ⟨⟨by decide +kernel, by decide +kernel⟩, List.mem_of_getElem? (i := 1070) (by decide +kernel), List.mem_of_getElem? (i := 1435) (by decide +kernel), List.mem_of_getElem? (i := 1436) (by decide +kernel)⟩
theorem lw_p61 : lw_okq (⟨"WakingLayersModel", "isAwake", "(I)Z"⟩, 72) := ⟨⟨by decide +kernel, by decide +kernel⟩, List.mem_of_getElem? (i := 1070) (by decide +kernel), List.mem_of_getElem? (i := 1440) (by decide +kernel), List.mem_of_getElem? (i := 1441) (by decide +kernel)⟩
theorem lw_p62 : lw_okq (⟨"WakingLayersModel", "openOf", "(I)I"⟩, 72) := ⟨⟨by decide +kernel, by decide +kernel⟩, List.mem_of_getElem? (i := 1070) (by decide +kernel), List.mem_of_getElem? (i := 1444) (by decide +kernel), List.mem_of_getElem? (i := 1445) (by decide +kernel)⟩
theorem lw_p63 : lw_okq (⟨"WakingLayersModel", "find", "()V"⟩, 72) := ⟨⟨by decide +kernel, by decide +kernel⟩, List.mem_of_getElem? (i := 1070) (by decide +kernel), List.mem_of_getElem? (i := 1463) (by decide +kernel), List.mem_of_getElem? (i := 1464) (by decide +kernel)⟩
def lw_privs_4 : List (MethodName × Nat) := [(⟨"WakingLayersModel", "bad", "(I)V"⟩, 72), (⟨"WakingLayersModel", "must", "(Z)V"⟩, 72), (⟨"WakingLayersModel", "readKind", "()V"⟩, 72), (⟨"WakingLayersModel", "numberTo", "(I)I"⟩, 72), (⟨"WakingLayersModel", "readThing", "()V"⟩, 72), (⟨"WakingLayersModel", "readLayer", "()V"⟩, 72), (⟨"WakingLayersModel", "sortOfWord", "()I"⟩, 72), (⟨"WakingLayersModel", "is", "(I)Z"⟩, 72), (⟨"WakingLayersModel", "readBody", "()V"⟩, 72), (⟨"WakingLayersModel", "wayOfWord", "()I"⟩, 72), (⟨"WakingLayersModel", "actOfWord", "(I)I"⟩, 72), (⟨"WakingLayersModel", "readAct", "(I)V"⟩, 72), (⟨"WakingLayersModel", "isLayer", "(I)Z"⟩, 72), (⟨"WakingLayersModel", "isAwake", "(I)Z"⟩, 72), (⟨"WakingLayersModel", "openOf", "(I)I"⟩, 72), (⟨"WakingLayersModel", "find", "()V"⟩, 72)]
theorem lw_r4 : ∀ q ∈ lw_privs_4, lw_okq q := List.forall_mem_cons.mpr ⟨lw_p48, List.forall_mem_cons.mpr ⟨lw_p49, List.forall_mem_cons.mpr ⟨lw_p50, List.forall_mem_cons.mpr ⟨lw_p51, List.forall_mem_cons.mpr ⟨lw_p52, List.forall_mem_cons.mpr ⟨lw_p53, List.forall_mem_cons.mpr ⟨lw_p54, List.forall_mem_cons.mpr ⟨lw_p55, List.forall_mem_cons.mpr ⟨lw_p56, List.forall_mem_cons.mpr ⟨lw_p57, List.forall_mem_cons.mpr ⟨lw_p58, List.forall_mem_cons.mpr ⟨lw_p59, List.forall_mem_cons.mpr ⟨lw_p60, List.forall_mem_cons.mpr ⟨lw_p61, List.forall_mem_cons.mpr ⟨lw_p62, List.forall_mem_cons.mpr ⟨lw_p63, fun _ h => absurd h List.not_mem_nil⟩⟩⟩⟩⟩⟩⟩⟩⟩⟩⟩⟩⟩⟩⟩⟩
theorem lw_p64 : lw_okq (⟨"WakingLayersModel", "holdsTest", "(I)Z"⟩, 72) := ⟨⟨by decide +kernel, by decide +kernel⟩, List.mem_of_getElem? (i := 1070) (by decide +kernel), List.mem_of_getElem? (i := 1467) (by decide +kernel), List.mem_of_getElem? (i := 1468) (by decide +kernel)⟩
theorem lw_p65 : lw_okq (⟨"WakingLayersModel", "hasNeeds", "(I)Z"⟩, 72) := ⟨⟨by decide +kernel, by decide +kernel⟩, List.mem_of_getElem? (i := 1070) (by decide +kernel), List.mem_of_getElem? (i := 1471) (by decide +kernel), List.mem_of_getElem? (i := 1472) (by decide +kernel)⟩
theorem lw_p66 : lw_okq (⟨"WakingLayersModel", "lose", "()V"⟩, 72) := ⟨⟨by decide +kernel, by decide +kernel⟩, List.mem_of_getElem? (i := 1070) (by decide +kernel), List.mem_of_getElem? (i := 1475) (by decide +kernel), List.mem_of_getElem? (i := 1476) (by decide +kernel)⟩
theorem lw_p67 : lw_okq (⟨"WakingLayersModel", "isThing", "(I)Z"⟩, 72) := ⟨⟨by decide +kernel, by decide +kernel⟩, List.mem_of_getElem? (i := 1070) (by decide +kernel), List.mem_of_getElem? (i := 1483) (by decide +kernel), List.mem_of_getElem? (i := 1484) (by decide +kernel)⟩
theorem lw_p68 : lw_okq (⟨"WakingLayersModel", "close", "(I)V"⟩, 72) := ⟨⟨by decide +kernel, by decide +kernel⟩, List.mem_of_getElem? (i := 1070) (by decide +kernel), List.mem_of_getElem? (i := 1491) (by decide +kernel), List.mem_of_getElem? (i := 1492) (by decide +kernel)⟩
theorem lw_p69 : lw_okq (⟨"WakingLayersModel", "layRow", "(III)V"⟩, 72) := ⟨⟨by decide +kernel, by decide +kernel⟩, List.mem_of_getElem? (i := 1070) (by decide +kernel), List.mem_of_getElem? (i := 1500) (by decide +kernel), List.mem_of_getElem? (i := 1501) (by decide +kernel)⟩
theorem lw_p70 : lw_okq (⟨"WakingLayersModel", "isAwakeFor", "(II)Z"⟩, 72) := ⟨⟨by decide +kernel, by decide +kernel⟩, List.mem_of_getElem? (i := 1070) (by decide +kernel), List.mem_of_getElem? (i := 1504) (by decide +kernel), List.mem_of_getElem? (i := 1505) (by decide +kernel)⟩
theorem lw_p71 : lw_okq (⟨"WakingLayersModel", "latestOf", "(II)I"⟩, 72) := ⟨⟨by decide +kernel, by decide +kernel⟩, List.mem_of_getElem? (i := 1070) (by decide +kernel), List.mem_of_getElem? (i := 1508) (by decide +kernel), List.mem_of_getElem? (i := 1509) (by decide +kernel)⟩
theorem lw_p72 : lw_okq (⟨"WakingLayersModel", "isAhead", "(III)Z"⟩, 72) := ⟨⟨by decide +kernel, by decide +kernel⟩, List.mem_of_getElem? (i := 1070) (by decide +kernel), List.mem_of_getElem? (i := 1512) (by decide +kernel), List.mem_of_getElem? (i := 1513) (by decide +kernel)⟩
theorem lw_p73 : lw_okq (⟨"WakingLayersModel", "lay", "(IIII)Z"⟩, 72) := ⟨⟨by decide +kernel, by decide +kernel⟩, List.mem_of_getElem? (i := 1070) (by decide +kernel), List.mem_of_getElem? (i := 1516) (by decide +kernel), List.mem_of_getElem? (i := 1517) (by decide +kernel)⟩
theorem lw_p74 : lw_okq (⟨"WakingLayersModel", "isNumber", "(I)Z"⟩, 72) := ⟨⟨by decide +kernel, by decide +kernel⟩, List.mem_of_getElem? (i := 1070) (by decide +kernel), List.mem_of_getElem? (i := 1524) (by decide +kernel), List.mem_of_getElem? (i := 1525) (by decide +kernel)⟩
theorem lw_p75 : lw_okq (⟨"WakingLayersModel", "outermost", "(III)I"⟩, 72) := ⟨⟨by decide +kernel, by decide +kernel⟩, List.mem_of_getElem? (i := 1070) (by decide +kernel), List.mem_of_getElem? (i := 1529) (by decide +kernel), List.mem_of_getElem? (i := 1530) (by decide +kernel)⟩
theorem lw_p76 : lw_okq (⟨"WakingLayersModel", "comeBack", "()Z"⟩, 72) := ⟨⟨by decide +kernel, by decide +kernel⟩, List.mem_of_getElem? (i := 1070) (by decide +kernel), List.mem_of_getElem? (i := 1533) (by decide +kernel), List.mem_of_getElem? (i := 1534) (by decide +kernel)⟩
theorem lw_p77 : lw_okq (⟨"WakingLayersModel", "topBody", "()I"⟩, 72) := ⟨⟨by decide +kernel, by decide +kernel⟩, List.mem_of_getElem? (i := 1070) (by decide +kernel), List.mem_of_getElem? (i := 1537) (by decide +kernel), List.mem_of_getElem? (i := 1538) (by decide +kernel)⟩
theorem lw_p78 : lw_okq (⟨"WakingLayersModel", "over", "(Z)V"⟩, 72) := ⟨⟨by decide +kernel, by decide +kernel⟩, List.mem_of_getElem? (i := 1070) (by decide +kernel), List.mem_of_getElem? (i := 1541) (by decide +kernel), List.mem_of_getElem? (i := 1542) (by decide +kernel)⟩
theorem lw_p79 : lw_okq (⟨"WakingLayersModel", "begin", "()Z"⟩, 72) := ⟨⟨by decide +kernel, by decide +kernel⟩, List.mem_of_getElem? (i := 1070) (by decide +kernel), List.mem_of_getElem? (i := 1545) (by decide +kernel), List.mem_of_getElem? (i := 1546) (by decide +kernel)⟩
def lw_privs_5 : List (MethodName × Nat) := [(⟨"WakingLayersModel", "holdsTest", "(I)Z"⟩, 72), (⟨"WakingLayersModel", "hasNeeds", "(I)Z"⟩, 72), (⟨"WakingLayersModel", "lose", "()V"⟩, 72), (⟨"WakingLayersModel", "isThing", "(I)Z"⟩, 72), (⟨"WakingLayersModel", "close", "(I)V"⟩, 72), (⟨"WakingLayersModel", "layRow", "(III)V"⟩, 72), (⟨"WakingLayersModel", "isAwakeFor", "(II)Z"⟩, 72), (⟨"WakingLayersModel", "latestOf", "(II)I"⟩, 72), (⟨"WakingLayersModel", "isAhead", "(III)Z"⟩, 72), (⟨"WakingLayersModel", "lay", "(IIII)Z"⟩, 72), (⟨"WakingLayersModel", "isNumber", "(I)Z"⟩, 72), (⟨"WakingLayersModel", "outermost", "(III)I"⟩, 72), (⟨"WakingLayersModel", "comeBack", "()Z"⟩, 72), (⟨"WakingLayersModel", "topBody", "()I"⟩, 72), (⟨"WakingLayersModel", "over", "(Z)V"⟩, 72), (⟨"WakingLayersModel", "begin", "()Z"⟩, 72)]
theorem lw_r5 : ∀ q ∈ lw_privs_5, lw_okq q := List.forall_mem_cons.mpr ⟨lw_p64, List.forall_mem_cons.mpr ⟨lw_p65, List.forall_mem_cons.mpr ⟨lw_p66, List.forall_mem_cons.mpr ⟨lw_p67, List.forall_mem_cons.mpr ⟨lw_p68, List.forall_mem_cons.mpr ⟨lw_p69, List.forall_mem_cons.mpr ⟨lw_p70, List.forall_mem_cons.mpr ⟨lw_p71, List.forall_mem_cons.mpr ⟨lw_p72, List.forall_mem_cons.mpr ⟨lw_p73, List.forall_mem_cons.mpr ⟨lw_p74, List.forall_mem_cons.mpr ⟨lw_p75, List.forall_mem_cons.mpr ⟨lw_p76, List.forall_mem_cons.mpr ⟨lw_p77, List.forall_mem_cons.mpr ⟨lw_p78, List.forall_mem_cons.mpr ⟨lw_p79, fun _ h => absurd h List.not_mem_nil⟩⟩⟩⟩⟩⟩⟩⟩⟩⟩⟩⟩⟩⟩⟩⟩
theorem lw_p80 : lw_okq (⟨"WakingLayersModel", "goNext", "()V"⟩, 72) := ⟨⟨by decide +kernel, by decide +kernel⟩, List.mem_of_getElem? (i := 1070) (by decide +kernel), List.mem_of_getElem? (i := 1549) (by decide +kernel), List.mem_of_getElem? (i := 1550) (by decide +kernel)⟩
theorem lw_p81 : lw_okq (⟨"WakingLayersModel", "doActs", "()V"⟩, 72) := ⟨⟨by decide +kernel, by decide +kernel⟩, List.mem_of_getElem? (i := 1070) (by decide +kernel), List.mem_of_getElem? (i := 1553) (by decide +kernel), List.mem_of_getElem? (i := 1554) (by decide +kernel)⟩
theorem lw_p82 : lw_okq (⟨"WakingLayersModel", "keep", "()V"⟩, 72) := ⟨⟨by decide +kernel, by decide +kernel⟩, List.mem_of_getElem? (i := 1070) (by decide +kernel), List.mem_of_getElem? (i := 1568) (by decide +kernel), List.mem_of_getElem? (i := 1569) (by decide +kernel)⟩
theorem lw_p83 : lw_okq (⟨"WakingLayersModel", "makeWorld", "(II)V"⟩, 72) := ⟨⟨by decide +kernel, by decide +kernel⟩, List.mem_of_getElem? (i := 1070) (by decide +kernel), List.mem_of_getElem? (i := 1575) (by decide +kernel), List.mem_of_getElem? (i := 1576) (by decide +kernel)⟩
theorem lw_p84 : lw_okq (⟨"WakingLayersModel", "bringBack", "()V"⟩, 72) := ⟨⟨by decide +kernel, by decide +kernel⟩, List.mem_of_getElem? (i := 1070) (by decide +kernel), List.mem_of_getElem? (i := 1579) (by decide +kernel), List.mem_of_getElem? (i := 1580) (by decide +kernel)⟩
theorem lw_p85 : lw_okq (⟨"WakingLayersModel", "kindOf", "(I)I"⟩, 72) := ⟨⟨by decide +kernel, by decide +kernel⟩, List.mem_of_getElem? (i := 1070) (by decide +kernel), List.mem_of_getElem? (i := 1591) (by decide +kernel), List.mem_of_getElem? (i := 1592) (by decide +kernel)⟩
theorem lw_p86 : lw_okq (⟨"WakingLayersModel", "markOf", "(II)I"⟩, 72) := ⟨⟨by decide +kernel, by decide +kernel⟩, List.mem_of_getElem? (i := 1070) (by decide +kernel), List.mem_of_getElem? (i := 1606) (by decide +kernel), List.mem_of_getElem? (i := 1607) (by decide +kernel)⟩
theorem lw_p87 : lw_okq (⟨"WakingLayersModel", "leaves", "(I)V"⟩, 72) := ⟨⟨by decide +kernel, by decide +kernel⟩, List.mem_of_getElem? (i := 1070) (by decide +kernel), List.mem_of_getElem? (i := 1610) (by decide +kernel), List.mem_of_getElem? (i := 1611) (by decide +kernel)⟩
theorem lw_p88 : lw_okq (⟨"WakingLayersModel", "sizeOf", "(II)I"⟩, 72) := ⟨⟨by decide +kernel, by decide +kernel⟩, List.mem_of_getElem? (i := 1070) (by decide +kernel), List.mem_of_getElem? (i := 1614) (by decide +kernel), List.mem_of_getElem? (i := 1615) (by decide +kernel)⟩
theorem lw_p89 : lw_okq (⟨"WakingLayersModel", "askedSize", "(II)I"⟩, 72) := ⟨⟨by decide +kernel, by decide +kernel⟩, List.mem_of_getElem? (i := 1070) (by decide +kernel), List.mem_of_getElem? (i := 1618) (by decide +kernel), List.mem_of_getElem? (i := 1619) (by decide +kernel)⟩
def lw_privs_6 : List (MethodName × Nat) := [(⟨"WakingLayersModel", "goNext", "()V"⟩, 72), (⟨"WakingLayersModel", "doActs", "()V"⟩, 72), (⟨"WakingLayersModel", "keep", "()V"⟩, 72), (⟨"WakingLayersModel", "makeWorld", "(II)V"⟩, 72), (⟨"WakingLayersModel", "bringBack", "()V"⟩, 72), (⟨"WakingLayersModel", "kindOf", "(I)I"⟩, 72), (⟨"WakingLayersModel", "markOf", "(II)I"⟩, 72), (⟨"WakingLayersModel", "leaves", "(I)V"⟩, 72), (⟨"WakingLayersModel", "sizeOf", "(II)I"⟩, 72), (⟨"WakingLayersModel", "askedSize", "(II)I"⟩, 72)]
theorem lw_r6 : ∀ q ∈ lw_privs_6, lw_okq q := List.forall_mem_cons.mpr ⟨lw_p80, List.forall_mem_cons.mpr ⟨lw_p81, List.forall_mem_cons.mpr ⟨lw_p82, List.forall_mem_cons.mpr ⟨lw_p83, List.forall_mem_cons.mpr ⟨lw_p84, List.forall_mem_cons.mpr ⟨lw_p85, List.forall_mem_cons.mpr ⟨lw_p86, List.forall_mem_cons.mpr ⟨lw_p87, List.forall_mem_cons.mpr ⟨lw_p88, List.forall_mem_cons.mpr ⟨lw_p89, fun _ h => absurd h List.not_mem_nil⟩⟩⟩⟩⟩⟩⟩⟩⟩⟩
def lw_privs : List (MethodName × Nat) := lw_privs_1 ++ (lw_privs_2 ++ (lw_privs_3 ++ (lw_privs_4 ++ (lw_privs_5 ++ (lw_privs_6)))))
def lw_tbl : List Cond := k2_sels lw_privs ++ tables_1
theorem lw_privs_ok : ∀ q ∈ lw_privs, lw_okq q := by
  show ∀ q ∈ lw_privs_1 ++ (lw_privs_2 ++ (lw_privs_3 ++ (lw_privs_4 ++ (lw_privs_5 ++ (lw_privs_6))))), lw_okq q
  exact List.forall_mem_append.mpr ⟨lw_r1, List.forall_mem_append.mpr ⟨lw_r2, List.forall_mem_append.mpr ⟨lw_r3, List.forall_mem_append.mpr ⟨lw_r4, List.forall_mem_append.mpr ⟨lw_r5, lw_r6⟩⟩⟩⟩⟩
end
section
def RX0 : String := "WakingLayers$Asker"
def TX0 : u_T := fun k => match k with
  | 0 => ("WakingLayers$Asker", "program", "LWakingLayers$Program;", true)
  | 1 => ("WakingLayers$Asker", "circumstances", "LWakingLayers$Circumstances;", true)
  | 2 => ("WakingLayers$Asker", "traced", "[I", true)
  | _ => ("WakingLayers$Asker", "tracedCount", "I", false)
def tyX0 : Nat → FieldType := fun k => match k with
  | 0 => .object "WakingLayers$Program"
  | 1 => .object "WakingLayers$Circumstances"
  | 2 => .array .int
  | _ => .int
theorem nmX0 : ∀ a, a < 4 → ∀ b, b < 4 → a ≠ b → (TX0 a).2.1 ≠ (TX0 b).2.1 := by decide +kernel
theorem tyX0_ok : ∀ k, k < 4 → parseFieldDescriptor (TX0 k).2.2.1 = some (tyX0 k) := by decide +kernel
abbrev cX0_init : ByteArray := prog_2_method_1_code
def yX0_init : MethodName := ⟨RX0, "<init>", "(LWakingLayers$Program;LWakingLayers$Circumstances;)V"⟩
abbrev cX0_isKind : ByteArray := prog_2_method_2_code
def yX0_isKind : MethodName := ⟨RX0, "isKind", "(I)Z"⟩
abbrev cX0_isAsk : ByteArray := prog_2_method_3_code
def yX0_isAsk : MethodName := ⟨RX0, "isAsk", "(I)Z"⟩
abbrev cX0_kindOf : ByteArray := prog_2_method_4_code
def yX0_kindOf : MethodName := ⟨RX0, "kindOf", "(LWakingLayers$Layer;)I"⟩
abbrev cX0_isOne : ByteArray := prog_2_method_5_code
def yX0_isOne : MethodName := ⟨RX0, "isOne", "(II)Z"⟩
abbrev cX0_tracedAt : ByteArray := prog_2_method_6_code
def yX0_tracedAt : MethodName := ⟨RX0, "tracedAt", "(I)I"⟩
abbrev cX0_clearTrace : ByteArray := prog_2_method_7_code
def yX0_clearTrace : MethodName := ⟨RX0, "clearTrace", "()V"⟩
abbrev cX0_sizeOf : ByteArray := prog_2_method_8_code
def yX0_sizeOf : MethodName := ⟨RX0, "sizeOf", "(I)I"⟩
abbrev cX0_markOf : ByteArray := prog_2_method_9_code
def yX0_markOf : MethodName := ⟨RX0, "markOf", "(I)I"⟩
abbrev cX0_lentSize : ByteArray := prog_2_method_10_code
def yX0_lentSize : MethodName := ⟨RX0, "lentSize", "(I)I"⟩
abbrev cX0_sizeOfSpanned : ByteArray := prog_2_method_11_code
def yX0_sizeOfSpanned : MethodName := ⟨RX0, "sizeOfSpanned", "(I)I"⟩
abbrev cX0_sizeOfOwned : ByteArray := prog_2_method_12_code
def yX0_sizeOfOwned : MethodName := ⟨RX0, "sizeOfOwned", "(I)I"⟩
abbrev cX0_sizeOfAsked : ByteArray := prog_2_method_13_code
def yX0_sizeOfAsked : MethodName := ⟨RX0, "sizeOfAsked", "(I)I"⟩
abbrev cX0_sizeOfNeeding : ByteArray := prog_2_method_14_code
def yX0_sizeOfNeeding : MethodName := ⟨RX0, "sizeOfNeeding", "(I)I"⟩
abbrev cX0_lentMark : ByteArray := prog_2_method_15_code
def yX0_lentMark : MethodName := ⟨RX0, "lentMark", "(I)I"⟩
abbrev cX0_markOfAsked : ByteArray := prog_2_method_16_code
def yX0_markOfAsked : MethodName := ⟨RX0, "markOfAsked", "(I)I"⟩
abbrev cX0_markOfEver : ByteArray := prog_2_method_17_code
def yX0_markOfEver : MethodName := ⟨RX0, "markOfEver", "(I)I"⟩
abbrev cX0_leave : ByteArray := prog_2_method_18_code
def yX0_leave : MethodName := ⟨RX0, "leave", "(I)V"⟩
def RX1 : String := "WakingLayers$Body"
def TX1 : u_T := fun k => match k with
  | 0 => ("WakingLayers$Body", "acts", "[I", true)
  | 1 => ("WakingLayers$Body", "firstNumbers", "[I", true)
  | 2 => ("WakingLayers$Body", "secondNumbers", "[I", true)
  | 3 => ("WakingLayers$Body", "actCount", "I", false)
  | 4 => ("WakingLayers$Body", "layer", "I", false)
  | 5 => ("WakingLayers$Body", "way", "I", false)
  | 6 => ("WakingLayers$Body", "kind", "I", false)
  | _ => ("WakingLayers$Body", "routine", "I", false)
def tyX1 : Nat → FieldType := fun k => match k with
  | 0 => .array .int
  | 1 => .array .int
  | 2 => .array .int
  | 3 => .int
  | 4 => .int
  | 5 => .int
  | 6 => .int
  | _ => .int
theorem nmX1 : ∀ a, a < 8 → ∀ b, b < 8 → a ≠ b → (TX1 a).2.1 ≠ (TX1 b).2.1 := by decide +kernel
theorem tyX1_ok : ∀ k, k < 8 → parseFieldDescriptor (TX1 k).2.2.1 = some (tyX1 k) := by decide +kernel
abbrev cX1_init : ByteArray := prog_3_method_1_code
def yX1_init : MethodName := ⟨RX1, "<init>", "()V"⟩
abbrev cX1_begin : ByteArray := prog_3_method_2_code
def yX1_begin : MethodName := ⟨RX1, "begin", "(IIII)V"⟩
abbrev cX1_addAct : ByteArray := prog_3_method_3_code
def yX1_addAct : MethodName := ⟨RX1, "addAct", "(III)V"⟩
abbrev cX1_isFor : ByteArray := prog_3_method_4_code
def yX1_isFor : MethodName := ⟨RX1, "isFor", "(II)Z"⟩
def RX2 : String := "WakingLayers$Circumstances"
def TX2 : u_T := fun k => match k with
  | 0 => ("WakingLayers$Circumstances", "program", "LWakingLayers$Program;", true)
  | 1 => ("WakingLayers$Circumstances", "told", "[I", true)
  | 2 => ("WakingLayers$Circumstances", "wokenLayers", "[I", true)
  | 3 => ("WakingLayers$Circumstances", "wokenThings", "[I", true)
  | 4 => ("WakingLayers$Circumstances", "open", "I", false)
  | _ => ("WakingLayers$Circumstances", "found", "I", false)
def tyX2 : Nat → FieldType := fun k => match k with
  | 0 => .object "WakingLayers$Program"
  | 1 => .array .int
  | 2 => .array .int
  | 3 => .array .int
  | 4 => .int
  | _ => .int
theorem nmX2 : ∀ a, a < 6 → ∀ b, b < 6 → a ≠ b → (TX2 a).2.1 ≠ (TX2 b).2.1 := by decide +kernel
theorem tyX2_ok : ∀ k, k < 6 → parseFieldDescriptor (TX2 k).2.2.1 = some (tyX2 k) := by decide +kernel
abbrev cX2_init : ByteArray := prog_4_method_1_code
def yX2_init : MethodName := ⟨RX2, "<init>", "(LWakingLayers$Program;)V"⟩
abbrev cX2_isFactValue : ByteArray := prog_4_method_2_code
def yX2_isFactValue : MethodName := ⟨RX2, "isFactValue", "(I)Z"⟩
abbrev cX2_tell : ByteArray := prog_4_method_3_code
def yX2_tell : MethodName := ⟨RX2, "tell", "(II)I"⟩
abbrev cX2_openCount : ByteArray := prog_4_method_4_code
def yX2_openCount : MethodName := ⟨RX2, "openCount", "()I"⟩
abbrev cX2_openOf : ByteArray := prog_4_method_5_code
def yX2_openOf : MethodName := ⟨RX2, "openOf", "(I)I"⟩
abbrev cX2_openWaking : ByteArray := prog_4_method_6_code
def yX2_openWaking : MethodName := ⟨RX2, "openWaking", "(II)Z"⟩
abbrev cX2_closeLatest : ByteArray := prog_4_method_7_code
def yX2_closeLatest : MethodName := ⟨RX2, "closeLatest", "(I)Z"⟩
abbrev cX2_closeDownTo : ByteArray := prog_4_method_8_code
def yX2_closeDownTo : MethodName := ⟨RX2, "closeDownTo", "(I)V"⟩
abbrev cX2_latestOpen : ByteArray := prog_4_method_9_code
def yX2_latestOpen : MethodName := ⟨RX2, "latestOpen", "(II)I"⟩
abbrev cX2_isFound : ByteArray := prog_4_method_10_code
def yX2_isFound : MethodName := ⟨RX2, "isFound", "(I)Z"⟩
abbrev cX2_foundSet : ByteArray := prog_4_method_11_code
def yX2_foundSet : MethodName := ⟨RX2, "foundSet", "()I"⟩
abbrev cX2_setFound : ByteArray := prog_4_method_12_code
def yX2_setFound : MethodName := ⟨RX2, "setFound", "(I)V"⟩
abbrev cX2_awakeSet : ByteArray := prog_4_method_13_code
def yX2_awakeSet : MethodName := ⟨RX2, "awakeSet", "()I"⟩
abbrev cX2_isAwake : ByteArray := prog_4_method_14_code
def yX2_isAwake : MethodName := ⟨RX2, "isAwake", "(I)Z"⟩
abbrev cX2_awakeUnasked : ByteArray := prog_4_method_15_code
def yX2_awakeUnasked : MethodName := ⟨RX2, "awakeUnasked", "()I"⟩
abbrev cX2_takePoint : ByteArray := prog_4_method_16_code
def yX2_takePoint : MethodName := ⟨RX2, "takePoint", "()I"⟩
abbrev cX2_foundAtPoint : ByteArray := prog_4_method_17_code
def yX2_foundAtPoint : MethodName := ⟨RX2, "foundAtPoint", "([I)I"⟩
abbrev cX2_settled : ByteArray := prog_4_method_18_code
def yX2_settled : MethodName := ⟨RX2, "settled", "(I)I"⟩
def RX3 : String := "WakingLayers$Layer"
def TX3 : u_T := fun k => match k with
  | 0 => ("WakingLayers$Layer", "sort", "I", false)
  | 1 => ("WakingLayers$Layer", "rank", "I", false)
  | 2 => ("WakingLayers$Layer", "needs", "I", false)
  | 3 => ("WakingLayers$Layer", "bars", "I", false)
  | 4 => ("WakingLayers$Layer", "tested", "Z", false)
  | 5 => ("WakingLayers$Layer", "testFact", "I", false)
  | 6 => ("WakingLayers$Layer", "testSign", "C", false)
  | _ => ("WakingLayers$Layer", "testBound", "I", false)
def tyX3 : Nat → FieldType := fun k => match k with
  | 0 => .int
  | 1 => .int
  | 2 => .int
  | 3 => .int
  | 4 => .boolean
  | 5 => .int
  | 6 => .char
  | _ => .int
theorem nmX3 : ∀ a, a < 8 → ∀ b, b < 8 → a ≠ b → (TX3 a).2.1 ≠ (TX3 b).2.1 := by decide +kernel
theorem tyX3_ok : ∀ k, k < 8 → parseFieldDescriptor (TX3 k).2.2.1 = some (tyX3 k) := by decide +kernel
abbrev cX3_init : ByteArray := prog_5_method_1_code
def yX3_init : MethodName := ⟨RX3, "<init>", "()V"⟩
abbrev cX3_begin : ByteArray := prog_5_method_2_code
def yX3_begin : MethodName := ⟨RX3, "begin", "(II)V"⟩
abbrev cX3_beginTest : ByteArray := prog_5_method_3_code
def yX3_beginTest : MethodName := ⟨RX3, "beginTest", "(ICI)V"⟩
abbrev cX3_isWoken : ByteArray := prog_5_method_4_code
def yX3_isWoken : MethodName := ⟨RX3, "isWoken", "()Z"⟩
abbrev cX3_testHolds : ByteArray := prog_5_method_5_code
def yX3_testHolds : MethodName := ⟨RX3, "testHolds", "([I)Z"⟩
def RX4 : String := "WakingLayers$Program"
def TX4 : u_T := fun k => match k with
  | 0 => ("WakingLayers$Program", "kindUnder", "[I", true)
  | 1 => ("WakingLayers$Program", "thingKind", "[I", true)
  | 2 => ("WakingLayers$Program", "thingValue", "[I", true)
  | 3 => ("WakingLayers$Program", "layers", "[LWakingLayers$Layer;", true)
  | 4 => ("WakingLayers$Program", "bodies", "[LWakingLayers$Body;", true)
  | 5 => ("WakingLayers$Program", "kindCount", "I", false)
  | 6 => ("WakingLayers$Program", "thingCount", "I", false)
  | 7 => ("WakingLayers$Program", "layerCount", "I", false)
  | 8 => ("WakingLayers$Program", "bodyCount", "I", false)
  | 9 => ("WakingLayers$Program", "keptKinds", "I", false)
  | 10 => ("WakingLayers$Program", "keptThings", "I", false)
  | 11 => ("WakingLayers$Program", "keptLayers", "I", false)
  | _ => ("WakingLayers$Program", "keptBodies", "I", false)
def tyX4 : Nat → FieldType := fun k => match k with
  | 0 => .array .int
  | 1 => .array .int
  | 2 => .array .int
  | 3 => .array (.object "WakingLayers$Layer")
  | 4 => .array (.object "WakingLayers$Body")
  | 5 => .int
  | 6 => .int
  | 7 => .int
  | 8 => .int
  | 9 => .int
  | 10 => .int
  | 11 => .int
  | _ => .int
theorem nmX4 : ∀ a, a < 13 → ∀ b, b < 13 → a ≠ b → (TX4 a).2.1 ≠ (TX4 b).2.1 := by decide +kernel
theorem tyX4_ok : ∀ k, k < 13 → parseFieldDescriptor (TX4 k).2.2.1 = some (tyX4 k) := by decide +kernel
abbrev cX4_init : ByteArray := prog_6_method_1_code
def yX4_init : MethodName := ⟨RX4, "<init>", "()V"⟩
abbrev cX4_isThing : ByteArray := prog_6_method_2_code
def yX4_isThing : MethodName := ⟨RX4, "isThing", "(I)Z"⟩
abbrev cX4_isLayer : ByteArray := prog_6_method_3_code
def yX4_isLayer : MethodName := ⟨RX4, "isLayer", "(I)Z"⟩
abbrev cX4_addKind : ByteArray := prog_6_method_4_code
def yX4_addKind : MethodName := ⟨RX4, "addKind", "(I)V"⟩
abbrev cX4_addThing : ByteArray := prog_6_method_5_code
def yX4_addThing : MethodName := ⟨RX4, "addThing", "(II)V"⟩
abbrev cX4_keepCounts : ByteArray := prog_6_method_6_code
def yX4_keepCounts : MethodName := ⟨RX4, "keepCounts", "()V"⟩
abbrev cX4_restoreCounts : ByteArray := prog_6_method_7_code
def yX4_restoreCounts : MethodName := ⟨RX4, "restoreCounts", "()V"⟩
abbrev cX4_bodiesOf : ByteArray := prog_6_method_8_code
def yX4_bodiesOf : MethodName := ⟨RX4, "bodiesOf", "(I)I"⟩
def RX5 : String := "WakingLayers$Reader"
def TX5 : u_T := fun k => match k with
  | 0 => ("WakingLayers$Reader", "tape", "LWakingLayers$Tape;", true)
  | 1 => ("WakingLayers$Reader", "program", "LWakingLayers$Program;", true)
  | 2 => ("WakingLayers$Reader", "faulty", "Z", false)
  | 3 => ("WakingLayers$Reader", "faultPlace", "I", false)
  | _ => ("WakingLayers$Reader", "faultNumber", "I", false)
def tyX5 : Nat → FieldType := fun k => match k with
  | 0 => .object "WakingLayers$Tape"
  | 1 => .object "WakingLayers$Program"
  | 2 => .boolean
  | 3 => .int
  | _ => .int
theorem nmX5 : ∀ a, a < 5 → ∀ b, b < 5 → a ≠ b → (TX5 a).2.1 ≠ (TX5 b).2.1 := by decide +kernel
theorem tyX5_ok : ∀ k, k < 5 → parseFieldDescriptor (TX5 k).2.2.1 = some (tyX5 k) := by decide +kernel
abbrev cX5_init : ByteArray := prog_7_method_1_code
def yX5_init : MethodName := ⟨RX5, "<init>", "(LWakingLayers$Tape;LWakingLayers$Program;)V"⟩
abbrev cX5_latestFault : ByteArray := prog_7_method_2_code
def yX5_latestFault : MethodName := ⟨RX5, "latestFault", "()I"⟩
abbrev cX5_readTape : ByteArray := prog_7_method_3_code
def yX5_readTape : MethodName := ⟨RX5, "readTape", "()I"⟩
abbrev cX5_readTelling : ByteArray := prog_7_method_4_code
def yX5_readTelling : MethodName := ⟨RX5, "readTelling", "()V"⟩
abbrev cX5_readKind : ByteArray := prog_7_method_5_code
def yX5_readKind : MethodName := ⟨RX5, "readKind", "()V"⟩
abbrev cX5_readThing : ByteArray := prog_7_method_6_code
def yX5_readThing : MethodName := ⟨RX5, "readThing", "()V"⟩
abbrev cX5_readLayer : ByteArray := prog_7_method_7_code
def yX5_readLayer : MethodName := ⟨RX5, "readLayer", "()V"⟩
abbrev cX5_readTest : ByteArray := prog_7_method_8_code
def yX5_readTest : MethodName := ⟨RX5, "readTest", "(LWakingLayers$Layer;)V"⟩
abbrev cX5_readNeedsAndBars : ByteArray := prog_7_method_9_code
def yX5_readNeedsAndBars : MethodName := ⟨RX5, "readNeedsAndBars", "(LWakingLayers$Layer;)V"⟩
abbrev cX5_readBody : ByteArray := prog_7_method_10_code
def yX5_readBody : MethodName := ⟨RX5, "readBody", "()V"⟩
abbrev cX5_readAct : ByteArray := prog_7_method_11_code
def yX5_readAct : MethodName := ⟨RX5, "readAct", "(LWakingLayers$Body;)V"⟩
abbrev cX5_takeFirstWord : ByteArray := prog_7_method_12_code
def yX5_takeFirstWord : MethodName := ⟨RX5, "takeFirstWord", "(II)V"⟩
abbrev cX5_takeOwner : ByteArray := prog_7_method_13_code
def yX5_takeOwner : MethodName := ⟨RX5, "takeOwner", "()I"⟩
abbrev cX5_refuseUnwoken : ByteArray := prog_7_method_14_code
def yX5_refuseUnwoken : MethodName := ⟨RX5, "refuseUnwoken", "()V"⟩
abbrev cX5_takeNumber : ByteArray := prog_7_method_15_code
def yX5_takeNumber : MethodName := ⟨RX5, "takeNumber", "(I)I"⟩
abbrev cX5_takeWord : ByteArray := prog_7_method_16_code
def yX5_takeWord : MethodName := ⟨RX5, "takeWord", "(Ljava/lang/String;)I"⟩
abbrev cX5_takeSign : ByteArray := prog_7_method_17_code
def yX5_takeSign : MethodName := ⟨RX5, "takeSign", "(C)V"⟩
abbrev cX5_refuse : ByteArray := prog_7_method_18_code
def yX5_refuse : MethodName := ⟨RX5, "refuse", "(I)V"⟩
def RX6 : String := "WakingLayers$Rows"
def TX6 : u_T := fun k => match k with
  | 0 => ("WakingLayers$Rows", "program", "LWakingLayers$Program;", true)
  | 1 => ("WakingLayers$Rows", "circumstances", "LWakingLayers$Circumstances;", true)
  | 2 => ("WakingLayers$Rows", "weights", "[I", true)
  | 3 => ("WakingLayers$Rows", "fitting", "[I", true)
  | _ => ("WakingLayers$Rows", "fittingCount", "I", false)
def tyX6 : Nat → FieldType := fun k => match k with
  | 0 => .object "WakingLayers$Program"
  | 1 => .object "WakingLayers$Circumstances"
  | 2 => .array .int
  | 3 => .array .int
  | _ => .int
theorem nmX6 : ∀ a, a < 5 → ∀ b, b < 5 → a ≠ b → (TX6 a).2.1 ≠ (TX6 b).2.1 := by decide +kernel
theorem tyX6_ok : ∀ k, k < 5 → parseFieldDescriptor (TX6 k).2.2.1 = some (tyX6 k) := by decide +kernel
abbrev cX6_init : ByteArray := prog_8_method_1_code
def yX6_init : MethodName := ⟨RX6, "<init>", "(LWakingLayers$Program;LWakingLayers$Circumstances;)V"⟩
abbrev cX6_fill : ByteArray := prog_8_method_2_code
def yX6_fill : MethodName := ⟨RX6, "fill", "([III)I"⟩
abbrev cX6_weight : ByteArray := prog_8_method_3_code
def yX6_weight : MethodName := ⟨RX6, "weight", "(II)I"⟩
abbrev cX6_takeHeaviest : ByteArray := prog_8_method_4_code
def yX6_takeHeaviest : MethodName := ⟨RX6, "takeHeaviest", "()I"⟩
abbrev cX6_gatherFitting : ByteArray := prog_8_method_5_code
def yX6_gatherFitting : MethodName := ⟨RX6, "gatherFitting", "(II)V"⟩
abbrev cX6_addBodies : ByteArray := prog_8_method_6_code
def yX6_addBodies : MethodName := ⟨RX6, "addBodies", "([III)I"⟩
abbrev cX6_isEnded : ByteArray := prog_8_method_7_code
def yX6_isEnded : MethodName := ⟨RX6, "isEnded", "([II)Z"⟩
def RX7 : String := "WakingLayers$Runner"
def TX7 : u_T := fun k => match k with
  | 0 => ("WakingLayers$Runner", "program", "LWakingLayers$Program;", true)
  | 1 => ("WakingLayers$Runner", "circumstances", "LWakingLayers$Circumstances;", true)
  | 2 => ("WakingLayers$Runner", "rows", "LWakingLayers$Rows;", true)
  | 3 => ("WakingLayers$Runner", "rowAt", "[[I", true)
  | 4 => ("WakingLayers$Runner", "rowLengthAt", "[I", true)
  | 5 => ("WakingLayers$Runner", "thingAt", "[I", true)
  | 6 => ("WakingLayers$Runner", "begun", "[I", true)
  | 7 => ("WakingLayers$Runner", "begunCount", "I", false)
  | _ => ("WakingLayers$Runner", "spent", "Z", false)
def tyX7 : Nat → FieldType := fun k => match k with
  | 0 => .object "WakingLayers$Program"
  | 1 => .object "WakingLayers$Circumstances"
  | 2 => .object "WakingLayers$Rows"
  | 3 => .array (.array .int)
  | 4 => .array .int
  | 5 => .array .int
  | 6 => .array .int
  | 7 => .int
  | _ => .boolean
theorem nmX7 : ∀ a, a < 9 → ∀ b, b < 9 → a ≠ b → (TX7 a).2.1 ≠ (TX7 b).2.1 := by decide +kernel
theorem tyX7_ok : ∀ k, k < 9 → parseFieldDescriptor (TX7 k).2.2.1 = some (tyX7 k) := by decide +kernel
abbrev cX7_init : ByteArray := prog_9_method_1_code
def yX7_init : MethodName := ⟨RX7, "<init>", "(LWakingLayers$Program;LWakingLayers$Circumstances;LWakingLayers$Rows;)V"⟩
abbrev cX7_begunCount : ByteArray := prog_9_method_2_code
def yX7_begunCount : MethodName := ⟨RX7, "begunCount", "()I"⟩
abbrev cX7_begunAt : ByteArray := prog_9_method_3_code
def yX7_begunAt : MethodName := ⟨RX7, "begunAt", "(I)I"⟩
abbrev cX7_callOutermost : ByteArray := prog_9_method_4_code
def yX7_callOutermost : MethodName := ⟨RX7, "callOutermost", "(III)I"⟩
abbrev cX7_callAt : ByteArray := prog_9_method_5_code
def yX7_callAt : MethodName := ⟨RX7, "callAt", "(IIII)I"⟩
abbrev cX7_runFrom : ByteArray := prog_9_method_6_code
def yX7_runFrom : MethodName := ⟨RX7, "runFrom", "(III)I"⟩
abbrev cX7_runBehind : ByteArray := prog_9_method_7_code
def yX7_runBehind : MethodName := ⟨RX7, "runBehind", "(III)I"⟩
abbrev cX7_noteBegun : ByteArray := prog_9_method_8_code
def yX7_noteBegun : MethodName := ⟨RX7, "noteBegun", "(I)V"⟩
abbrev cX7_doActs : ByteArray := prog_9_method_9_code
def yX7_doActs : MethodName := ⟨RX7, "doActs", "(III)I"⟩
abbrev cX7_doAct : ByteArray := prog_9_method_10_code
def yX7_doAct : MethodName := ⟨RX7, "doAct", "(LWakingLayers$Body;IIII)I"⟩
abbrev cX7_wokenThing : ByteArray := prog_9_method_11_code
def yX7_wokenThing : MethodName := ⟨RX7, "wokenThing", "(II)I"⟩
def RX8 : String := "WakingLayers$Sheets"
def TX8 : u_T := fun k => match k with
  | 0 => ("WakingLayers$Sheets", "laid", "[Z", true)
  | 1 => ("WakingLayers$Sheets", "lanes", "[I", true)
  | 2 => ("WakingLayers$Sheets", "lengths", "[I", true)
  | _ => ("WakingLayers$Sheets", "items", "[[I", true)
def tyX8 : Nat → FieldType := fun k => match k with
  | 0 => .array .boolean
  | 1 => .array .int
  | 2 => .array .int
  | _ => .array (.array .int)
theorem nmX8 : ∀ a, a < 4 → ∀ b, b < 4 → a ≠ b → (TX8 a).2.1 ≠ (TX8 b).2.1 := by decide +kernel
theorem tyX8_ok : ∀ k, k < 4 → parseFieldDescriptor (TX8 k).2.2.1 = some (tyX8 k) := by decide +kernel
abbrev cX8_init : ByteArray := prog_10_method_1_code
def yX8_init : MethodName := ⟨RX8, "<init>", "()V"⟩
abbrev cX8_isSheet : ByteArray := prog_10_method_2_code
def yX8_isSheet : MethodName := ⟨RX8, "isSheet", "(I)Z"⟩
abbrev cX8_isLane : ByteArray := prog_10_method_3_code
def yX8_isLane : MethodName := ⟨RX8, "isLane", "(I)Z"⟩
abbrev cX8_isMissing : ByteArray := prog_10_method_4_code
def yX8_isMissing : MethodName := ⟨RX8, "isMissing", "(I)Z"⟩
abbrev cX8_haveOneLane : ByteArray := prog_10_method_5_code
def yX8_haveOneLane : MethodName := ⟨RX8, "haveOneLane", "(II)Z"⟩
abbrev cX8_hasPlaces : ByteArray := prog_10_method_6_code
def yX8_hasPlaces : MethodName := ⟨RX8, "hasPlaces", "(III)Z"⟩
abbrev cX8_lay : ByteArray := prog_10_method_7_code
def yX8_lay : MethodName := ⟨RX8, "lay", "(III)V"⟩
abbrev cX8_put : ByteArray := prog_10_method_8_code
def yX8_put : MethodName := ⟨RX8, "put", "(III)I"⟩
abbrev cX8_item : ByteArray := prog_10_method_9_code
def yX8_item : MethodName := ⟨RX8, "item", "(II)I"⟩
abbrev cX8_move : ByteArray := prog_10_method_10_code
def yX8_move : MethodName := ⟨RX8, "move", "(IIIII)V"⟩
abbrev cX8_lose : ByteArray := prog_10_method_11_code
def yX8_lose : MethodName := ⟨RX8, "lose", "(I)I"⟩
abbrev cX8_laidCount : ByteArray := prog_10_method_12_code
def yX8_laidCount : MethodName := ⟨RX8, "laidCount", "()I"⟩
def RX9 : String := "WakingLayers$SmallWorld"
def TX9 : u_T := fun k => match k with
  | 0 => ("WakingLayers$SmallWorld", "program", "LWakingLayers$Program;", true)
  | 1 => ("WakingLayers$SmallWorld", "circumstances", "LWakingLayers$Circumstances;", true)
  | 2 => ("WakingLayers$SmallWorld", "runner", "LWakingLayers$Runner;", true)
  | 3 => ("WakingLayers$SmallWorld", "facts", "[I", true)
  | _ => ("WakingLayers$SmallWorld", "gathered", "[Z", true)
def tyX9 : Nat → FieldType := fun k => match k with
  | 0 => .object "WakingLayers$Program"
  | 1 => .object "WakingLayers$Circumstances"
  | 2 => .object "WakingLayers$Runner"
  | 3 => .array .int
  | _ => .array .boolean
theorem nmX9 : ∀ a, a < 5 → ∀ b, b < 5 → a ≠ b → (TX9 a).2.1 ≠ (TX9 b).2.1 := by decide +kernel
theorem tyX9_ok : ∀ k, k < 5 → parseFieldDescriptor (TX9 k).2.2.1 = some (tyX9 k) := by decide +kernel
abbrev cX9_init : ByteArray := prog_11_method_1_code
def yX9_init : MethodName := ⟨RX9, "<init>", "(LWakingLayers$Program;LWakingLayers$Circumstances;LWakingLayers$Runner;)V"⟩
abbrev cX9_isGreatest : ByteArray := prog_11_method_2_code
def yX9_isGreatest : MethodName := ⟨RX9, "isGreatest", "(I)Z"⟩
abbrev cX9_gather : ByteArray := prog_11_method_3_code
def yX9_gather : MethodName := ⟨RX9, "gather", "(I)I"⟩
abbrev cX9_factsOfWorld : ByteArray := prog_11_method_4_code
def yX9_factsOfWorld : MethodName := ⟨RX9, "factsOfWorld", "(II)[I"⟩
abbrev cX9_gatheredAt : ByteArray := prog_11_method_5_code
def yX9_gatheredAt : MethodName := ⟨RX9, "gatheredAt", "(I)I"⟩
abbrev cX9_changesNothing : ByteArray := prog_11_method_6_code
def yX9_changesNothing : MethodName := ⟨RX9, "changesNothing", "(IIII)Z"⟩
def RX10 : String := "WakingLayers$Tape"
def TX10 : u_T := fun k => match k with
  | 0 => ("WakingLayers$Tape", "bytes", "[I", true)
  | 1 => ("WakingLayers$Tape", "length", "I", false)
  | 2 => ("WakingLayers$Tape", "sort", "I", false)
  | 3 => ("WakingLayers$Tape", "start", "I", false)
  | 4 => ("WakingLayers$Tape", "end", "I", false)
  | _ => ("WakingLayers$Tape", "value", "I", false)
def tyX10 : Nat → FieldType := fun k => match k with
  | 0 => .array .int
  | 1 => .int
  | 2 => .int
  | 3 => .int
  | 4 => .int
  | _ => .int
theorem nmX10 : ∀ a, a < 6 → ∀ b, b < 6 → a ≠ b → (TX10 a).2.1 ≠ (TX10 b).2.1 := by decide +kernel
theorem tyX10_ok : ∀ k, k < 6 → parseFieldDescriptor (TX10 k).2.2.1 = some (tyX10 k) := by decide +kernel
abbrev cX10_init : ByteArray := prog_12_method_1_code
def yX10_init : MethodName := ⟨RX10, "<init>", "()V"⟩
abbrev cX10_length : ByteArray := prog_12_method_2_code
def yX10_length : MethodName := ⟨RX10, "length", "()I"⟩
abbrev cX10_hasRoom : ByteArray := prog_12_method_3_code
def yX10_hasRoom : MethodName := ⟨RX10, "hasRoom", "(I)Z"⟩
abbrev cX10_append : ByteArray := prog_12_method_4_code
def yX10_append : MethodName := ⟨RX10, "append", "(JI)I"⟩
abbrev cX10_clear : ByteArray := prog_12_method_5_code
def yX10_clear : MethodName := ⟨RX10, "clear", "()V"⟩
abbrev cX10_firstToken : ByteArray := prog_12_method_6_code
def yX10_firstToken : MethodName := ⟨RX10, "firstToken", "()V"⟩
abbrev cX10_nextToken : ByteArray := prog_12_method_7_code
def yX10_nextToken : MethodName := ⟨RX10, "nextToken", "()V"⟩
abbrev cX10_sortOf : ByteArray := prog_12_method_8_code
def yX10_sortOf : MethodName := ⟨RX10, "sortOf", "(I)I"⟩
abbrev cX10_endOfRun : ByteArray := prog_12_method_9_code
def yX10_endOfRun : MethodName := ⟨RX10, "endOfRun", "(CC)I"⟩
abbrev cX10_valueNumber : ByteArray := prog_12_method_10_code
def yX10_valueNumber : MethodName := ⟨RX10, "valueNumber", "()V"⟩
abbrev cX10_tokenStart : ByteArray := prog_12_method_11_code
def yX10_tokenStart : MethodName := ⟨RX10, "tokenStart", "()I"⟩
abbrev cX10_atEnd : ByteArray := prog_12_method_12_code
def yX10_atEnd : MethodName := ⟨RX10, "atEnd", "()Z"⟩
abbrev cX10_atNumber : ByteArray := prog_12_method_13_code
def yX10_atNumber : MethodName := ⟨RX10, "atNumber", "()Z"⟩
abbrev cX10_number : ByteArray := prog_12_method_14_code
def yX10_number : MethodName := ⟨RX10, "number", "()I"⟩
abbrev cX10_atSign : ByteArray := prog_12_method_15_code
def yX10_atSign : MethodName := ⟨RX10, "atSign", "(C)Z"⟩
abbrev cX10_atName : ByteArray := prog_12_method_16_code
def yX10_atName : MethodName := ⟨RX10, "atName", "(Ljava/lang/String;)Z"⟩
abbrev cX10_nameAmong : ByteArray := prog_12_method_17_code
def yX10_nameAmong : MethodName := ⟨RX10, "nameAmong", "(Ljava/lang/String;)I"⟩
abbrev cX10_matches : ByteArray := prog_12_method_18_code
def yX10_matches : MethodName := ⟨RX10, "matches", "(Ljava/lang/String;I)Z"⟩
def RX11 : String := "WakingLayers"
def TX11 : u_T := fun k => match k with
  | 0 => ("WakingLayers", "sheets", "LWakingLayers$Sheets;", true)
  | 1 => ("WakingLayers", "tape", "LWakingLayers$Tape;", true)
  | 2 => ("WakingLayers", "program", "LWakingLayers$Program;", true)
  | 3 => ("WakingLayers", "reader", "LWakingLayers$Reader;", true)
  | 4 => ("WakingLayers", "circumstances", "LWakingLayers$Circumstances;", true)
  | 5 => ("WakingLayers", "rows", "LWakingLayers$Rows;", true)
  | 6 => ("WakingLayers", "shownRow", "[I", true)
  | 7 => ("WakingLayers", "runner", "LWakingLayers$Runner;", true)
  | 8 => ("WakingLayers", "smallWorld", "LWakingLayers$SmallWorld;", true)
  | 9 => ("WakingLayers", "asker", "LWakingLayers$Asker;", true)
  | _ => ("WakingLayers", "latestFinding", "I", false)
def tyX11 : Nat → FieldType := fun k => match k with
  | 0 => .object "WakingLayers$Sheets"
  | 1 => .object "WakingLayers$Tape"
  | 2 => .object "WakingLayers$Program"
  | 3 => .object "WakingLayers$Reader"
  | 4 => .object "WakingLayers$Circumstances"
  | 5 => .object "WakingLayers$Rows"
  | 6 => .array .int
  | 7 => .object "WakingLayers$Runner"
  | 8 => .object "WakingLayers$SmallWorld"
  | 9 => .object "WakingLayers$Asker"
  | _ => .int
theorem nmX11 : ∀ a, a < 11 → ∀ b, b < 11 → a ≠ b → (TX11 a).2.1 ≠ (TX11 b).2.1 := by decide +kernel
theorem tyX11_ok : ∀ k, k < 11 → parseFieldDescriptor (TX11 k).2.2.1 = some (tyX11 k) := by decide +kernel
abbrev cX11_init : ByteArray := prog_1_method_1_code
def yX11_init : MethodName := ⟨RX11, "<init>", "()V"⟩
abbrev cX11_sheet : ByteArray := prog_1_method_2_code
def yX11_sheet : MethodName := ⟨RX11, "sheet", "(III)I"⟩
abbrev cX11_set : ByteArray := prog_1_method_3_code
def yX11_set : MethodName := ⟨RX11, "set", "(III)I"⟩
abbrev cX11_copy : ByteArray := prog_1_method_4_code
def yX11_copy : MethodName := ⟨RX11, "copy", "(IIIII)I"⟩
abbrev cX11_drop : ByteArray := prog_1_method_5_code
def yX11_drop : MethodName := ⟨RX11, "drop", "(I)I"⟩
abbrev cX11_feed : ByteArray := prog_1_method_6_code
def yX11_feed : MethodName := ⟨RX11, "feed", "(JI)I"⟩
abbrev cX11_read : ByteArray := prog_1_method_7_code
def yX11_read : MethodName := ⟨RX11, "read", "()I"⟩
abbrev cX11_fault : ByteArray := prog_1_method_8_code
def yX11_fault : MethodName := ⟨RX11, "fault", "()I"⟩
abbrev cX11_layer : ByteArray := prog_1_method_9_code
def yX11_layer : MethodName := ⟨RX11, "layer", "(II)I"⟩
abbrev cX11_fact : ByteArray := prog_1_method_10_code
def yX11_fact : MethodName := ⟨RX11, "fact", "(II)I"⟩
abbrev cX11_facts : ByteArray := prog_1_method_11_code
def yX11_facts : MethodName := ⟨RX11, "facts", "(III)I"⟩
abbrev cX11_point : ByteArray := prog_1_method_12_code
def yX11_point : MethodName := ⟨RX11, "point", "()I"⟩
abbrev cX11_wake : ByteArray := prog_1_method_13_code
def yX11_wake : MethodName := ⟨RX11, "wake", "(II)I"⟩
abbrev cX11_sleep : ByteArray := prog_1_method_14_code
def yX11_sleep : MethodName := ⟨RX11, "sleep", "(I)I"⟩
abbrev cX11_row : ByteArray := prog_1_method_15_code
def yX11_row : MethodName := ⟨RX11, "row", "(III)I"⟩
abbrev cX11_call : ByteArray := prog_1_method_16_code
def yX11_call : MethodName := ⟨RX11, "call", "(III)I"⟩
abbrev cX11_ran : ByteArray := prog_1_method_17_code
def yX11_ran : MethodName := ⟨RX11, "ran", "(I)I"⟩
abbrev cX11_together : ByteArray := prog_1_method_18_code
def yX11_together : MethodName := ⟨RX11, "together", "(II)I"⟩
abbrev cX11_same : ByteArray := prog_1_method_19_code
def yX11_same : MethodName := ⟨RX11, "same", "(IIIII)I"⟩
abbrev cX11_kind : ByteArray := prog_1_method_20_code
def yX11_kind : MethodName := ⟨RX11, "kind", "(I)I"⟩
abbrev cX11_as : ByteArray := prog_1_method_21_code
def yX11_as : MethodName := ⟨RX11, "as", "(II)I"⟩
abbrev cX11_ask : ByteArray := prog_1_method_22_code
def yX11_ask : MethodName := ⟨RX11, "ask", "(II)I"⟩
abbrev cX11_trace : ByteArray := prog_1_method_23_code
def yX11_trace : MethodName := ⟨RX11, "trace", "(I)I"⟩
abbrev cX11_count : ByteArray := prog_1_method_24_code
def yX11_count : MethodName := ⟨RX11, "count", "(I)I"⟩
abbrev cX11_status : ByteArray := prog_1_method_25_code
def yX11_status : MethodName := ⟨RX11, "status", "()I"⟩
abbrev cX11_finding : ByteArray := prog_1_method_26_code
def yX11_finding : MethodName := ⟨RX11, "finding", "(I)I"⟩
abbrev cX11_withoutFinding : ByteArray := prog_1_method_27_code
def yX11_withoutFinding : MethodName := ⟨RX11, "withoutFinding", "(I)I"⟩
abbrev cX11_isCall : ByteArray := prog_1_method_28_code
def yX11_isCall : MethodName := ⟨RX11, "isCall", "(III)Z"⟩
abbrev cX11_isRoutine : ByteArray := prog_1_method_29_code
def yX11_isRoutine : MethodName := ⟨RX11, "isRoutine", "(I)Z"⟩
def RX12 : String := "WakingLayersModel"
def TX12 : u_T := fun k => match k with
  | 0 => ("WakingLayersModel", "thrown", "I", false)
  | 1 => ("WakingLayersModel", "status", "I", false)
  | 2 => ("WakingLayersModel", "lane", "[I", true)
  | 3 => ("WakingLayersModel", "many", "[I", true)
  | 4 => ("WakingLayersModel", "item", "[I", true)
  | 5 => ("WakingLayersModel", "kinds", "I", false)
  | 6 => ("WakingLayersModel", "under", "[I", true)
  | 7 => ("WakingLayersModel", "things", "I", false)
  | 8 => ("WakingLayersModel", "thingKind", "[I", true)
  | 9 => ("WakingLayersModel", "thingValue", "[I", true)
  | 10 => ("WakingLayersModel", "layers", "I", false)
  | 11 => ("WakingLayersModel", "sort", "[I", true)
  | 12 => ("WakingLayersModel", "rank", "[I", true)
  | 13 => ("WakingLayersModel", "testFact", "[I", true)
  | 14 => ("WakingLayersModel", "testSign", "[I", true)
  | 15 => ("WakingLayersModel", "testNumber", "[I", true)
  | 16 => ("WakingLayersModel", "needs", "[I", true)
  | 17 => ("WakingLayersModel", "bars", "[I", true)
  | 18 => ("WakingLayersModel", "bodies", "I", false)
  | 19 => ("WakingLayersModel", "bodyLayer", "[I", true)
  | 20 => ("WakingLayersModel", "bodyKind", "[I", true)
  | 21 => ("WakingLayersModel", "bodyRoutine", "[I", true)
  | 22 => ("WakingLayersModel", "way", "[I", true)
  | 23 => ("WakingLayersModel", "acts", "[I", true)
  | 24 => ("WakingLayersModel", "act", "[I", true)
  | 25 => ("WakingLayersModel", "tape", "[I", true)
  | 26 => ("WakingLayersModel", "taped", "I", false)
  | 27 => ("WakingLayersModel", "latest", "I", false)
  | 28 => ("WakingLayersModel", "size", "I", false)
  | 29 => ("WakingLayersModel", "cursor", "I", false)
  | 30 => ("WakingLayersModel", "token", "I", false)
  | 31 => ("WakingLayersModel", "from", "I", false)
  | 32 => ("WakingLayersModel", "till", "I", false)
  | 33 => ("WakingLayersModel", "fault", "I", false)
  | 34 => ("WakingLayersModel", "faultAt", "I", false)
  | 35 => ("WakingLayersModel", "newKinds", "I", false)
  | 36 => ("WakingLayersModel", "newThings", "I", false)
  | 37 => ("WakingLayersModel", "newLayers", "I", false)
  | 38 => ("WakingLayersModel", "newBodies", "I", false)
  | 39 => ("WakingLayersModel", "told", "[I", true)
  | 40 => ("WakingLayersModel", "hold", "[I", true)
  | 41 => ("WakingLayersModel", "open", "I", false)
  | 42 => ("WakingLayersModel", "openLayer", "[I", true)
  | 43 => ("WakingLayersModel", "openThing", "[I", true)
  | 44 => ("WakingLayersModel", "found", "I", false)
  | 45 => ("WakingLayersModel", "rowSize", "[I", true)
  | 46 => ("WakingLayersModel", "rowBody", "[I", true)
  | 47 => ("WakingLayersModel", "callThing", "[I", true)
  | 48 => ("WakingLayersModel", "piled", "I", false)
  | 49 => ("WakingLayersModel", "pileCall", "[I", true)
  | 50 => ("WakingLayersModel", "pileAt", "[I", true)
  | 51 => ("WakingLayersModel", "pileHad", "[I", true)
  | 52 => ("WakingLayersModel", "pileNumber", "[I", true)
  | 53 => ("WakingLayersModel", "pileAct", "[I", true)
  | 54 => ("WakingLayersModel", "pileWakes", "[I", true)
  | 55 => ("WakingLayersModel", "pileWaits", "[I", true)
  | 56 => ("WakingLayersModel", "pileFails", "[Z", true)
  | 57 => ("WakingLayersModel", "begun", "I", false)
  | 58 => ("WakingLayersModel", "began", "[I", true)
  | 59 => ("WakingLayersModel", "spent", "Z", false)
  | 60 => ("WakingLayersModel", "back", "Z", false)
  | 61 => ("WakingLayersModel", "failed", "Z", false)
  | 62 => ("WakingLayersModel", "value", "I", false)
  | 63 => ("WakingLayersModel", "call", "I", false)
  | 64 => ("WakingLayersModel", "place", "I", false)
  | 65 => ("WakingLayersModel", "ranMany", "I", false)
  | 66 => ("WakingLayersModel", "ranBody", "[I", true)
  | 67 => ("WakingLayersModel", "keptHold", "[I", true)
  | 68 => ("WakingLayersModel", "keptFound", "I", false)
  | 69 => ("WakingLayersModel", "isSet", "[Z", true)
  | 70 => ("WakingLayersModel", "trace", "[I", true)
  | _ => ("WakingLayersModel", "traced", "I", false)
def tyX12 : Nat → FieldType := fun k => match k with
  | 0 => .int
  | 1 => .int
  | 2 => .array .int
  | 3 => .array .int
  | 4 => .array .int
  | 5 => .int
  | 6 => .array .int
  | 7 => .int
  | 8 => .array .int
  | 9 => .array .int
  | 10 => .int
  | 11 => .array .int
  | 12 => .array .int
  | 13 => .array .int
  | 14 => .array .int
  | 15 => .array .int
  | 16 => .array .int
  | 17 => .array .int
  | 18 => .int
  | 19 => .array .int
  | 20 => .array .int
  | 21 => .array .int
  | 22 => .array .int
  | 23 => .array .int
  | 24 => .array .int
  | 25 => .array .int
  | 26 => .int
  | 27 => .int
  | 28 => .int
  | 29 => .int
  | 30 => .int
  | 31 => .int
  | 32 => .int
  | 33 => .int
  | 34 => .int
  | 35 => .int
  | 36 => .int
  | 37 => .int
  | 38 => .int
  | 39 => .array .int
  | 40 => .array .int
  | 41 => .int
  | 42 => .array .int
  | 43 => .array .int
  | 44 => .int
  | 45 => .array .int
  | 46 => .array .int
  | 47 => .array .int
  | 48 => .int
  | 49 => .array .int
  | 50 => .array .int
  | 51 => .array .int
  | 52 => .array .int
  | 53 => .array .int
  | 54 => .array .int
  | 55 => .array .int
  | 56 => .array .boolean
  | 57 => .int
  | 58 => .array .int
  | 59 => .boolean
  | 60 => .boolean
  | 61 => .boolean
  | 62 => .int
  | 63 => .int
  | 64 => .int
  | 65 => .int
  | 66 => .array .int
  | 67 => .array .int
  | 68 => .int
  | 69 => .array .boolean
  | 70 => .array .int
  | _ => .int
theorem nmX12 : ∀ a, a < 72 → ∀ b, b < 72 → a ≠ b → (TX12 a).2.1 ≠ (TX12 b).2.1 := by decide +kernel
theorem tyX12_ok : ∀ k, k < 72 → parseFieldDescriptor (TX12 k).2.2.1 = some (tyX12 k) := by decide +kernel
abbrev cX12_init : ByteArray := prog_14_method_1_code
def yX12_init : MethodName := ⟨RX12, "<init>", "()V"⟩
abbrev cX12_in : ByteArray := prog_14_method_3_code
def yX12_in : MethodName := ⟨RX12, "in", "(JJJ)Z"⟩
abbrev cX12_finding : ByteArray := prog_14_method_4_code
def yX12_finding : MethodName := ⟨RX12, "finding", "(I)I"⟩
abbrev cX12_isSheet : ByteArray := prog_14_method_5_code
def yX12_isSheet : MethodName := ⟨RX12, "isSheet", "(I)Z"⟩
abbrev cX12_sheet : ByteArray := prog_14_method_6_code
def yX12_sheet : MethodName := ⟨RX12, "sheet", "(III)I"⟩
abbrev cX12_set : ByteArray := prog_14_method_7_code
def yX12_set : MethodName := ⟨RX12, "set", "(III)I"⟩
abbrev cX12_copy : ByteArray := prog_14_method_8_code
def yX12_copy : MethodName := ⟨RX12, "copy", "(IIIII)I"⟩
abbrev cX12_drop : ByteArray := prog_14_method_9_code
def yX12_drop : MethodName := ⟨RX12, "drop", "(I)I"⟩
abbrev cX12_feed : ByteArray := prog_14_method_10_code
def yX12_feed : MethodName := ⟨RX12, "feed", "(JI)I"⟩
abbrev cX12_byteAt : ByteArray := prog_14_method_11_code
def yX12_byteAt : MethodName := ⟨RX12, "byteAt", "(I)I"⟩
abbrev cX12_isLetter : ByteArray := prog_14_method_12_code
def yX12_isLetter : MethodName := ⟨RX12, "isLetter", "(I)Z"⟩
abbrev cX12_isFigure : ByteArray := prog_14_method_13_code
def yX12_isFigure : MethodName := ⟨RX12, "isFigure", "(I)Z"⟩
abbrev cX12_isSign : ByteArray := prog_14_method_14_code
def yX12_isSign : MethodName := ⟨RX12, "isSign", "(I)Z"⟩
abbrev cX12_step : ByteArray := prog_14_method_15_code
def yX12_step : MethodName := ⟨RX12, "step", "()V"⟩
abbrev cX12_bad : ByteArray := prog_14_method_16_code
def yX12_bad : MethodName := ⟨RX12, "bad", "(I)V"⟩
abbrev cX12_must : ByteArray := prog_14_method_17_code
def yX12_must : MethodName := ⟨RX12, "must", "(Z)V"⟩
abbrev cX12_is : ByteArray := prog_14_method_18_code
def yX12_is : MethodName := ⟨RX12, "is", "(I)Z"⟩
abbrev cX12_word : ByteArray := prog_14_method_19_code
def yX12_word : MethodName := ⟨RX12, "word", "()J"⟩
abbrev cX12_numberTo : ByteArray := prog_14_method_20_code
def yX12_numberTo : MethodName := ⟨RX12, "numberTo", "(I)I"⟩
abbrev cX12_sortOfWord : ByteArray := prog_14_method_21_code
def yX12_sortOfWord : MethodName := ⟨RX12, "sortOfWord", "()I"⟩
abbrev cX12_wayOfWord : ByteArray := prog_14_method_22_code
def yX12_wayOfWord : MethodName := ⟨RX12, "wayOfWord", "()I"⟩
abbrev cX12_actOfWord : ByteArray := prog_14_method_23_code
def yX12_actOfWord : MethodName := ⟨RX12, "actOfWord", "(I)I"⟩
abbrev cX12_readKind : ByteArray := prog_14_method_24_code
def yX12_readKind : MethodName := ⟨RX12, "readKind", "()V"⟩
abbrev cX12_readThing : ByteArray := prog_14_method_25_code
def yX12_readThing : MethodName := ⟨RX12, "readThing", "()V"⟩
abbrev cX12_readLayer : ByteArray := prog_14_method_26_code
def yX12_readLayer : MethodName := ⟨RX12, "readLayer", "()V"⟩
abbrev cX12_readAct : ByteArray := prog_14_method_27_code
def yX12_readAct : MethodName := ⟨RX12, "readAct", "(I)V"⟩
abbrev cX12_readBody : ByteArray := prog_14_method_28_code
def yX12_readBody : MethodName := ⟨RX12, "readBody", "()V"⟩
abbrev cX12_read : ByteArray := prog_14_method_29_code
def yX12_read : MethodName := ⟨RX12, "read", "()I"⟩
abbrev cX12_fault : ByteArray := prog_14_method_30_code
def yX12_fault : MethodName := ⟨RX12, "fault", "()I"⟩
abbrev cX12_isLayer : ByteArray := prog_14_method_31_code
def yX12_isLayer : MethodName := ⟨RX12, "isLayer", "(I)Z"⟩
abbrev cX12_isThing : ByteArray := prog_14_method_32_code
def yX12_isThing : MethodName := ⟨RX12, "isThing", "(I)Z"⟩
abbrev cX12_openOf : ByteArray := prog_14_method_33_code
def yX12_openOf : MethodName := ⟨RX12, "openOf", "(I)I"⟩
abbrev cX12_isAwake : ByteArray := prog_14_method_34_code
def yX12_isAwake : MethodName := ⟨RX12, "isAwake", "(I)Z"⟩
abbrev cX12_hasNeeds : ByteArray := prog_14_method_35_code
def yX12_hasNeeds : MethodName := ⟨RX12, "hasNeeds", "(I)Z"⟩
abbrev cX12_lose : ByteArray := prog_14_method_36_code
def yX12_lose : MethodName := ⟨RX12, "lose", "()V"⟩
abbrev cX12_holdsTest : ByteArray := prog_14_method_37_code
def yX12_holdsTest : MethodName := ⟨RX12, "holdsTest", "(I)Z"⟩
abbrev cX12_find : ByteArray := prog_14_method_38_code
def yX12_find : MethodName := ⟨RX12, "find", "()V"⟩
abbrev cX12_layer : ByteArray := prog_14_method_39_code
def yX12_layer : MethodName := ⟨RX12, "layer", "(II)I"⟩
abbrev cX12_fact : ByteArray := prog_14_method_40_code
def yX12_fact : MethodName := ⟨RX12, "fact", "(II)I"⟩
abbrev cX12_facts : ByteArray := prog_14_method_41_code
def yX12_facts : MethodName := ⟨RX12, "facts", "(III)I"⟩
abbrev cX12_point : ByteArray := prog_14_method_42_code
def yX12_point : MethodName := ⟨RX12, "point", "()I"⟩
abbrev cX12_wake : ByteArray := prog_14_method_43_code
def yX12_wake : MethodName := ⟨RX12, "wake", "(II)I"⟩
abbrev cX12_close : ByteArray := prog_14_method_44_code
def yX12_close : MethodName := ⟨RX12, "close", "(I)V"⟩
abbrev cX12_sleep : ByteArray := prog_14_method_45_code
def yX12_sleep : MethodName := ⟨RX12, "sleep", "(I)I"⟩
abbrev cX12_latestOf : ByteArray := prog_14_method_46_code
def yX12_latestOf : MethodName := ⟨RX12, "latestOf", "(II)I"⟩
abbrev cX12_isAwakeFor : ByteArray := prog_14_method_47_code
def yX12_isAwakeFor : MethodName := ⟨RX12, "isAwakeFor", "(II)Z"⟩
abbrev cX12_isAhead : ByteArray := prog_14_method_48_code
def yX12_isAhead : MethodName := ⟨RX12, "isAhead", "(III)Z"⟩
abbrev cX12_lay : ByteArray := prog_14_method_49_code
def yX12_lay : MethodName := ⟨RX12, "lay", "(IIII)Z"⟩
abbrev cX12_layRow : ByteArray := prog_14_method_50_code
def yX12_layRow : MethodName := ⟨RX12, "layRow", "(III)V"⟩
abbrev cX12_row : ByteArray := prog_14_method_51_code
def yX12_row : MethodName := ⟨RX12, "row", "(III)I"⟩
abbrev cX12_topBody : ByteArray := prog_14_method_52_code
def yX12_topBody : MethodName := ⟨RX12, "topBody", "()I"⟩
abbrev cX12_over : ByteArray := prog_14_method_53_code
def yX12_over : MethodName := ⟨RX12, "over", "(Z)V"⟩
abbrev cX12_goNext : ByteArray := prog_14_method_54_code
def yX12_goNext : MethodName := ⟨RX12, "goNext", "()V"⟩
abbrev cX12_begin : ByteArray := prog_14_method_55_code
def yX12_begin : MethodName := ⟨RX12, "begin", "()Z"⟩
abbrev cX12_comeBack : ByteArray := prog_14_method_56_code
def yX12_comeBack : MethodName := ⟨RX12, "comeBack", "()Z"⟩
abbrev cX12_doActs : ByteArray := prog_14_method_57_code
def yX12_doActs : MethodName := ⟨RX12, "doActs", "()V"⟩
abbrev cX12_outermost : ByteArray := prog_14_method_58_code
def yX12_outermost : MethodName := ⟨RX12, "outermost", "(III)I"⟩
abbrev cX12_isNumber : ByteArray := prog_14_method_59_code
def yX12_isNumber : MethodName := ⟨RX12, "isNumber", "(I)Z"⟩
abbrev cX12_call : ByteArray := prog_14_method_60_code
def yX12_call : MethodName := ⟨RX12, "call", "(III)I"⟩
abbrev cX12_ran : ByteArray := prog_14_method_61_code
def yX12_ran : MethodName := ⟨RX12, "ran", "(I)I"⟩
abbrev cX12_keep : ByteArray := prog_14_method_62_code
def yX12_keep : MethodName := ⟨RX12, "keep", "()V"⟩
abbrev cX12_bringBack : ByteArray := prog_14_method_63_code
def yX12_bringBack : MethodName := ⟨RX12, "bringBack", "()V"⟩
abbrev cX12_makeWorld : ByteArray := prog_14_method_64_code
def yX12_makeWorld : MethodName := ⟨RX12, "makeWorld", "(II)V"⟩
abbrev cX12_worlds : ByteArray := prog_14_method_65_code
def yX12_worlds : MethodName := ⟨RX12, "worlds", "(I)I"⟩
abbrev cX12_together : ByteArray := prog_14_method_66_code
def yX12_together : MethodName := ⟨RX12, "together", "(II)I"⟩
abbrev cX12_same : ByteArray := prog_14_method_67_code
def yX12_same : MethodName := ⟨RX12, "same", "(IIIII)I"⟩
abbrev cX12_kindOf : ByteArray := prog_14_method_68_code
def yX12_kindOf : MethodName := ⟨RX12, "kindOf", "(I)I"⟩
abbrev cX12_isOf : ByteArray := prog_14_method_69_code
def yX12_isOf : MethodName := ⟨RX12, "isOf", "(II)Z"⟩
abbrev cX12_kind : ByteArray := prog_14_method_70_code
def yX12_kind : MethodName := ⟨RX12, "kind", "(I)I"⟩
abbrev cX12_as : ByteArray := prog_14_method_71_code
def yX12_as : MethodName := ⟨RX12, "as", "(II)I"⟩
abbrev cX12_leaves : ByteArray := prog_14_method_72_code
def yX12_leaves : MethodName := ⟨RX12, "leaves", "(I)V"⟩
abbrev cX12_markOf : ByteArray := prog_14_method_73_code
def yX12_markOf : MethodName := ⟨RX12, "markOf", "(II)I"⟩
abbrev cX12_bits : ByteArray := prog_14_method_74_code
def yX12_bits : MethodName := ⟨RX12, "bits", "(I)I"⟩
abbrev cX12_sizeOf : ByteArray := prog_14_method_75_code
def yX12_sizeOf : MethodName := ⟨RX12, "sizeOf", "(II)I"⟩
abbrev cX12_askedSize : ByteArray := prog_14_method_76_code
def yX12_askedSize : MethodName := ⟨RX12, "askedSize", "(II)I"⟩
abbrev cX12_ask : ByteArray := prog_14_method_77_code
def yX12_ask : MethodName := ⟨RX12, "ask", "(II)I"⟩
abbrev cX12_trace : ByteArray := prog_14_method_78_code
def yX12_trace : MethodName := ⟨RX12, "trace", "(I)I"⟩
abbrev cX12_count : ByteArray := prog_14_method_79_code
def yX12_count : MethodName := ⟨RX12, "count", "(I)I"⟩
abbrev cX12_status : ByteArray := prog_14_method_80_code
def yX12_status : MethodName := ⟨RX12, "status", "()I"⟩
def RJ6 : String := "java/lang/Integer"
abbrev cJ6_bitCount_0f7a4 : ByteArray := prog_15_method_49_code
def yJ6_bitCount_0f7a4 : MethodName := ⟨RJ6, "bitCount", "(I)I"⟩
def RJ0 : String := "java/lang/String"
abbrev cJ0_length_8abf5 : ByteArray := prog_16_method_54_code
def yJ0_length_8abf5 : MethodName := ⟨RJ0, "length", "()I"⟩
abbrev cJ0_charAt_5068e : ByteArray := prog_16_method_56_code
def yJ0_charAt_5068e : MethodName := ⟨RJ0, "charAt", "(I)C"⟩
abbrev cJ0_coder_7d493 : ByteArray := prog_16_method_152_code
def yJ0_coder_7d493 : MethodName := ⟨RJ0, "coder", "()B"⟩
abbrev cJ0_isLatin1_aae02 : ByteArray := prog_16_method_154_code
def yJ0_isLatin1_aae02 : MethodName := ⟨RJ0, "isLatin1", "()Z"⟩
abbrev cJ0_checkIndex_df160 : ByteArray := prog_16_method_155_code
def yJ0_checkIndex_df160 : MethodName := ⟨RJ0, "checkIndex", "(II)V"⟩
def RJ1 : String := "java/lang/StringLatin1"
abbrev cJ1_charAt_3b067 : ByteArray := prog_17_method_2_code
def yJ1_charAt_3b067 : MethodName := ⟨RJ1, "charAt", "([BI)C"⟩
def RJ2 : String := "java/lang/StringUTF16"
abbrev cJ2_getChar_3b067 : ByteArray := prog_18_method_5_code
def yJ2_getChar_3b067 : MethodName := ⟨RJ2, "getChar", "([BI)C"⟩
abbrev cJ2_length_9d52b : ByteArray := prog_18_method_6_code
def yJ2_length_9d52b : MethodName := ⟨RJ2, "length", "([B)I"⟩
abbrev cJ2_charAt_3b067 : ByteArray := prog_18_method_83_code
def yJ2_charAt_3b067 : MethodName := ⟨RJ2, "charAt", "([BI)C"⟩
abbrev cJ2_checkIndex_2214a : ByteArray := prog_18_method_91_code
def yJ2_checkIndex_2214a : MethodName := ⟨RJ2, "checkIndex", "(I[B)V"⟩
def RJ10 : String := "java/lang/System"
def RJ3 : String := "jdk/internal/util/Preconditions"
abbrev cJ3_checkIndex_8e157 : ByteArray := prog_20_method_11_code
def yJ3_checkIndex_8e157 : MethodName := ⟨RJ3, "checkIndex", "(IILjava/util/function/BiFunction;)I"⟩
def RL : String := "WakingLayersLaw"
abbrev cL_law : ByteArray := code
def yL_law : MethodName := ⟨RL, "law", "([I)Z"⟩
abbrev vwCl : List vw_C := [(RX0, TX0, 4), (RX1, TX1, 8), (RX2, TX2, 6), (RX3, TX3, 8), (RX4, TX4, 13), (RX5, TX5, 5), (RX6, TX6, 5), (RX7, TX7, 9), (RX8, TX8, 4), (RX9, TX9, 5), (RX10, TX10, 6), (RX11, TX11, 11), (RX12, TX12, 72)]
end
section
def x_N : Nat := 203
def x_kdL : List Nat := [11, 8, 14, 13, 13, 17, 13, 13, 13, 13, 13, 13, 13, 13, 10, 13, 4, 13, 13, 13, 16, 15, 3, 3, 3, 3, 3, 3, 3, 3, 1, 13, 13, 13, 1, 13, 13, 13, 1, 13, 13, 13, 1, 13, 13, 13, 1, 13, 13, 13, 1, 13, 13, 13, 1, 13, 13, 13, 1, 13, 13, 13, 1, 13, 13, 13, 1, 13, 13, 13, 1, 13, 13, 13, 1, 13, 13, 13, 1, 13, 13, 13, 1, 13, 13, 13, 1, 13, 13, 13, 1, 13, 13, 13, 1, 13, 13, 13, 1, 13, 13, 13, 1, 13, 13, 13, 1, 13, 13, 13, 1, 13, 13, 13, 1, 13, 13, 13, 1, 13, 13, 13, 1, 13, 13, 13, 5, 2, 13, 13, 13, 6, 13, 13, 13, 7, 17, 13, 13, 13, 13, 13, 13, 13, 13, 13, 9, 7, 17, 13, 13, 13, 13, 13, 13, 13, 13, 13, 13, 14, 0, 13, 12, 13, 13, 13, 13, 13, 13, 13, 13, 13, 13, 13, 13, 13, 13, 13, 13, 13, 13, 13, 13, 13, 13, 13, 13, 13, 13, 13, 13, 13, 13, 13, 13, 13, 13, 14, 13, 13, 13, 14, 13]
def x_szL : List Nat := [11, 4, 8, 8, 8, 8, 40, 40, 40, 40, 40, 40, 40, 40, 6, 600, 13, 8, 8, 8, 8, 24, 8, 8, 8, 8, 8, 8, 8, 8, 8, 6, 6, 6, 8, 6, 6, 6, 8, 6, 6, 6, 8, 6, 6, 6, 8, 6, 6, 6, 8, 6, 6, 6, 8, 6, 6, 6, 8, 6, 6, 6, 8, 6, 6, 6, 8, 6, 6, 6, 8, 6, 6, 6, 8, 6, 6, 6, 8, 6, 6, 6, 8, 6, 6, 6, 8, 6, 6, 6, 8, 6, 6, 6, 8, 6, 6, 6, 8, 6, 6, 6, 8, 6, 6, 6, 8, 6, 6, 6, 8, 6, 6, 6, 8, 6, 6, 6, 8, 6, 6, 6, 8, 6, 6, 6, 5, 6, 4, 16, 16, 5, 8, 24, 24, 9, 6, 24, 24, 24, 24, 24, 24, 6, 6, 40, 5, 9, 6, 24, 24, 24, 24, 24, 24, 6, 6, 40, 4, 256, 4, 16, 72, 8, 8, 320, 8, 8, 8, 8, 8, 8, 8, 8, 8, 8, 24, 24, 24, 24, 24, 432, 600, 4, 4, 16, 16, 7, 168, 7, 61, 61, 61, 61, 61, 61, 61, 61, 40, 40, 4, 256, 16]
def x_rfL : List (List (Option Nat)) := [[some 1, some 14, some 16, some 126, some 127, some 131, some 134, some 135, some 146, some 160, none], [some 2, some 3, some 4, some 5], [], [], [], [some 6, some 7, some 8, some 9, some 10, some 11, some 12, some 13], [], [], [], [], [], [], [], [], [some 15, none, none, none, none, none], [], [some 17, some 18, some 19, some 20, some 21, none, none, none, none, none, none, none, none], [], [], [], [some 22, some 23, some 24, some 25, some 26, some 27, some 28, some 29], [some 30, some 34, some 38, some 42, some 46, some 50, some 54, some 58, some 62, some 66, some 70, some 74, some 78, some 82, some 86, some 90, some 94, some 98, some 102, some 106, some 110, some 114, some 118, some 122], [], [], [], [], [], [], [], [], [some 31, some 32, some 33, none, none, none, none, none], [], [], [], [some 35, some 36, some 37, none, none, none, none, none], [], [], [], [some 39, some 40, some 41, none, none, none, none, none], [], [], [], [some 43, some 44, some 45, none, none, none, none, none], [], [], [], [some 47, some 48, some 49, none, none, none, none, none], [], [], [], [some 51, some 52, some 53, none, none, none, none, none], [], [], [], [some 55, some 56, some 57, none, none, none, none, none], [], [], [], [some 59, some 60, some 61, none, none, none, none, none], [], [], [], [some 63, some 64, some 65, none, none, none, none, none], [], [], [], [some 67, some 68, some 69, none, none, none, none, none], [], [], [], [some 71, some 72, some 73, none, none, none, none, none], [], [], [], [some 75, some 76, some 77, none, none, none, none, none], [], [], [], [some 79, some 80, some 81, none, none, none, none, none], [], [], [], [some 83, some 84, some 85, none, none, none, none, none], [], [], [], [some 87, some 88, some 89, none, none, none, none, none], [], [], [], [some 91, some 92, some 93, none, none, none, none, none], [], [], [], [some 95, some 96, some 97, none, none, none, none, none], [], [], [], [some 99, some 100, some 101, none, none, none, none, none], [], [], [], [some 103, some 104, some 105, none, none, none, none, none], [], [], [], [some 107, some 108, some 109, none, none, none, none, none], [], [], [], [some 111, some 112, some 113, none, none, none, none, none], [], [], [], [some 115, some 116, some 117, none, none, none, none, none], [], [], [], [some 119, some 120, some 121, none, none, none, none, none], [], [], [], [some 123, some 124, some 125, none, none, none, none, none], [], [], [], [some 14, some 16, none, none, none], [some 16, some 128, some 129, some 130, none, none], [], [], [], [some 16, some 127, some 132, some 133, none], [], [], [], [some 16, some 127, some 131, some 136, some 143, some 144, some 145, none, none], [some 137, some 138, some 139, some 140, some 141, some 142], [], [], [], [], [], [], [], [], [], [some 16, some 127, some 147, some 158, some 159], [some 16, some 127, some 131, some 148, some 155, some 156, some 157, none, none], [some 149, some 150, some 151, some 152, some 153, some 154], [], [], [], [], [], [], [], [], [], [], [], [some 16, some 127, some 161, none], [], [none, none, some 163, some 164, some 165, none, some 166, none, some 167, some 168, none, some 169, some 170, some 171, some 172, some 173, some 174, some 175, none, some 176, some 177, some 178, some 179, some 180, some 181, some 182, none, none, none, none, none, none, none, none, none, none, none, none, none, some 183, some 184, none, some 185, some 186, none, some 187, some 188, some 189, none, some 190, some 191, some 192, some 193, some 194, some 195, some 196, some 197, none, some 198, none, none, none, none, none, none, none, some 199, some 200, none, some 201, some 202, none], [], [], [], [], [], [], [], [], [], [], [], [], [], [], [], [], [], [], [], [], [], [], [], [], [], [], [], [], [], [], [], [], [], [], [], [], [], [], [], []]
/-- which fields of a class are references -/
def x_frL : List (List Bool) := [[true, true, true, false], [true, true, true, false, false, false, false, false], [true, true, true, true, false, false], [false, false, false, false, false, false, false, false], [true, true, true, true, true, false, false, false, false, false, false, false, false], [true, true, false, false, false], [true, true, true, true, false], [true, true, true, true, true, true, true, false, false], [true, true, true, true], [true, true, true, true, true], [true, false, false, false, false, false], [true, true, true, true, true, true, true, true, true, true, false], [false, false, true, true, true, false, true, false, true, true, false, true, true, true, true, true, true, true, false, true, true, true, true, true, true, true, false, false, false, false, false, false, false, false, false, false, false, false, false, true, true, false, true, true, false, true, true, true, false, true, true, true, true, true, true, true, true, false, true, false, false, false, false, false, false, false, true, true, false, true, true, false]]
def x_kd (k : Nat) : Nat := x_kdL.getD k 99
def x_sz (k : Nat) : Nat := x_szL.getD k 0
def x_rf (k j : Nat) : Option Nat := (x_rfL.getD k []).getD j none
def x_fr (c j : Nat) : Bool := (x_frL.getD c []).getD j false
/-- the numbers of a class's fields -/
def x_nf (c : Nat) : Nat := (x_frL.getD c []).length
theorem x_szf : ∀ k, k < x_N → x_kd k < 13 → x_sz k = x_nf (x_kd k) := by decide +kernel
theorem x_kd18 : ∀ k, k < x_N → x_kd k < 18 := by decide +kernel
end
section
/-! THE ROWS: behind the constructors the heap is one memory over a fixed shape -/
/-! the words that all methods share -/
def x_ws : List Cond := lw_tbl.filter goodWord
theorem x_in {w : Cond} (i : Nat) (h : lw_tbl[i]? = some w) (hg : goodWord w = true) : w ∈ x_ws := List.mem_filter.mpr ⟨List.mem_of_getElem? h, hg⟩
theorem x_ws_tbl : ∀ w ∈ x_ws, w ∈ lw_tbl := fun _ h => (List.mem_filter.mp h).1
theorem x_ins (ws : List Cond) (ps : List Nat) (h : ws = ps.filterMap (fun i => lw_tbl[i]?)) (hg : ws.all goodWord = true) : ∀ w ∈ ws, w ∈ x_ws := by
  intro w hw
  have h1 := List.all_eq_true.mp hg w hw
  rw [h] at hw
  obtain ⟨i, -, hi⟩ := List.mem_filterMap.mp hw
  exact x_in i hi h1
theorem x_good {big : List Cond} (h : ∀ w ∈ x_ws, w ∈ big) : GoodIn big x_ws := fun w hw => ⟨h w hw, good_of_word (List.mem_filter.mp hw).2⟩
abbrev xMu : Type := Nat → Nat → Int32
def x_wr (μ : xMu) (k j : Nat) (v : Int32) : xMu := fun a b => if a = k ∧ b = j then v else μ a b
theorem x_wr_ne {μ : xMu} {k j : Nat} {v : Int32} {a : Nat} (h : a ≠ k) : x_wr μ k j v a = μ a := by
  funext b; simp [x_wr, h]
theorem x_wr_row (μ : xMu) (k j : Nat) (v : Int32) : x_wr μ k j v k = upd (μ k) j v := by
  funext b; simp [x_wr, upd]
def x_cv (ad : Nat → Nat) : Value → Value
  | .ref k => .ref (ad k)
  | v => v
def x_fv (μ : xMu) (k j : Nat) : Value := if x_fr (x_kd k) j then va_rf (x_rf k j) else .int (μ k j)
def x_cell (cy : Nat → ClassId) (ad : Nat → Nat) (μ : xMu) (k : Nat) : va_E :=
  if x_kd k < 13 then .inr (x_kd k, (List.range (x_sz k)).map (fun j => x_cv ad (x_fv μ k j)))
  else if x_kd k < 15 then .inl (cy (x_kd k), x_sz k, .inl (μ k))
  else .inl (cy (x_kd k), x_sz k, .inr (.inr (.inr (.inr (fun j => (x_rf k j).map ad)))))
def x_W (cy : Nat → ClassId) (ad : Nat → Nat) (μ : xMu) : va_W := (List.range x_N).map (fun k => (ad k, x_cell cy ad μ k))
theorem x_W_at {cy : Nat → ClassId} {ad : Nat → Nat} {μ : xMu} {k : Nat} (hk : k < x_N) : (x_W cy ad μ)[k]? = some (ad k, x_cell cy ad μ k) := by
  simp [x_W, hk]
theorem x_W_len (cy : Nat → ClassId) (ad : Nat → Nat) (μ : xMu) : (x_W cy ad μ).length = x_N := by simp [x_W]
theorem x_cell_ne {cy : Nat → ClassId} {ad : Nat → Nat} {μ : xMu} {k j : Nat} {v : Int32} {a : Nat} (h : a ≠ k) : x_cell cy ad (x_wr μ k j v) a = x_cell cy ad μ a := by
  simp only [x_cell, x_fv, x_wr_ne h]
theorem x_W_set {cy : Nat → ClassId} {ad : Nat → Nat} {μ μ' : xMu} {k : Nat} {e : va_E} (he : e = x_cell cy ad μ' k) (hn : ∀ a, a ≠ k → x_cell cy ad μ' a = x_cell cy ad μ a) : (x_W cy ad μ).set k (ad k, e) = x_W cy ad μ' := by
  apply List.ext_getElem?
  intro i
  rw [List.getElem?_set]
  by_cases hi : i < x_N
  · by_cases h : k = i
    · subst h
      rw [if_pos rfl, x_W_len, if_pos hi, x_W_at hi, he]
    · rw [if_neg h, x_W_at hi, x_W_at hi, hn i (Ne.symm h)]
  · have h1 : (x_W cy ad μ)[i]? = none := by rw [List.getElem?_eq_none_iff, x_W_len]; omega
    have h2 : (x_W cy ad μ')[i]? = none := by rw [List.getElem?_eq_none_iff, x_W_len]; omega
    rw [h1, h2, x_W_len]
    by_cases h : k = i
    · subst h
      rw [if_pos rfl, if_neg hi]
    · rw [if_neg h]
def x_tys (cy : Nat → ClassId) : List (ClassId × FieldType) := [(cy 13, .int), (cy 14, .boolean), (cy 15, .object "WakingLayers$Body"), (cy 16, .object "WakingLayers$Layer"), (cy 17, .array .int)]
def x_inj (ad : Nat → Nat) : Prop := ∀ i j, i < x_N → j < x_N → ad i = ad j → i = j
def x_A (ad : Nat → Nat) : Nat → Prop := fun q => ∃ k, k < x_N ∧ ad k = q
theorem x_W_some {cy : Nat → ClassId} {ad : Nat → Nat} {μ : xMu} {i : Nat} {q : Nat × va_E} (h : (x_W cy ad μ)[i]? = some q) : i < x_N ∧ q = (ad i, x_cell cy ad μ i) := by
  have hi : i < x_N := by
    have := (List.getElem?_eq_some_iff.mp h).1
    rwa [x_W_len] at this
  rw [x_W_at hi] at h
  exact ⟨hi, (Option.some.inj h).symm⟩
theorem x_D {cy : Nat → ClassId} {ad : Nat → Nat} {μ : xMu} (h : x_inj ad) : va_D (x_A ad) (x_W cy ad μ) := by
  refine ⟨fun i j p q hp hq he => ?_, fun k q hq => ?_⟩
  · obtain ⟨h1, rfl⟩ := x_W_some hp
    obtain ⟨h2, rfl⟩ := x_W_some hq
    exact h i j h1 h2 he
  · obtain ⟨h1, rfl⟩ := x_W_some hq
    exact ⟨k, h1, rfl⟩
/-- cell k is of kind c -/
def x_is (k c : Nat) : Prop := k < x_N ∧ x_kd k = c
theorem x_cell_o {cy : Nat → ClassId} {ad : Nat → Nat} {μ : xMu} {k c : Nat} (h : x_kd k = c) (hc : c < 13) : x_cell cy ad μ k = .inr (c, (List.range (x_sz k)).map (fun j => x_cv ad (x_fv μ k j))) := by
  simp [x_cell, h, hc]
theorem x_cell_i {cy : Nat → ClassId} {ad : Nat → Nat} {μ : xMu} {k : Nat} (h : x_kd k = 13) : x_cell cy ad μ k = .inl (cy 13, x_sz k, .inl (μ k)) := by
  simp [x_cell, h]
theorem x_cell_z {cy : Nat → ClassId} {ad : Nat → Nat} {μ : xMu} {k : Nat} (h : x_kd k = 14) : x_cell cy ad μ k = .inl (cy 14, x_sz k, .inl (μ k)) := by
  simp [x_cell, h]
theorem x_cell_r {cy : Nat → ClassId} {ad : Nat → Nat} {μ : xMu} {k c : Nat} (h : x_kd k = c) (hc : ¬ c < 15) : x_cell cy ad μ k = .inl (cy c, x_sz k, .inr (.inr (.inr (.inr (fun j => (x_rf k j).map ad))))) := by
  have : ¬ c < 13 := by omega
  simp [x_cell, h, hc, this]
theorem x_put_cell {cy : Nat → ClassId} {ad : Nat → Nat} {μ : xMu} {k j c : Nat} {v : Int32} (h : x_kd k = c) (hc : c < 13) (hf : x_fr c j = false) :
    (.inr (c, ((List.range (x_sz k)).map (fun j => x_cv ad (x_fv μ k j))).set j (.int v)) : va_E) = x_cell cy ad (x_wr μ k j v) k := by
  rw [x_cell_o h hc]
  congr 2
  apply List.ext_getElem?
  intro i
  rw [List.getElem?_set]
  by_cases hi : i < x_sz k
  · by_cases e : j = i
    · subst e
      simp [hi, x_fv, h, hf, x_wr, x_cv]
    · have e' : ¬ i = j := fun q => e q.symm
      simp only [if_neg e, List.getElem?_map, List.getElem?_range hi, Option.map_some, x_fv, x_wr]
      simp [e']
  · have h1 : (List.range (x_sz k))[i]? = none := by simp; omega
    simp only [List.getElem?_map, h1, Option.map_none, List.length_map, List.length_range]
    by_cases e : j = i
    · simp [e, hi]
    · simp [e]
/-! the locals -/
def x_LR (ad : Nat → Nat) (ls : Array Slot) (nL : Nat) (L : List (Option Value)) : Prop := ls.size = nL ∧ L.length = nL ∧ lv_wf ls ∧ ∀ (i : Nat) (v : Value), L[i]? = some (some v) → ls[i]? = some (.val (x_cv ad v))
def x_lp (ad : Nat → Nat) (L : List (Option Value)) : List (Nat × Value) := (List.range L.length).filterMap (fun i => match L[i]? with
  | some (some v) => some (i, x_cv ad v)
  | _ => none)
theorem x_lp_mem {ad : Nat → Nat} {L : List (Option Value)} {i : Nat} {w : Value} : (i, w) ∈ x_lp ad L ↔ ∃ v, L[i]? = some (some v) ∧ w = x_cv ad v := by
  unfold x_lp
  rw [List.mem_filterMap]
  constructor
  · rintro ⟨j, -, h⟩
    split at h
    · next v hv => cases h; exact ⟨v, hv, rfl⟩
    · cases h
  · rintro ⟨v, h, rfl⟩
    refine ⟨i, List.mem_range.mpr (List.getElem?_eq_some_iff.mp h).1, ?_⟩
    rw [h]
theorem x_LR.has {ad : Nat → Nat} {ls : Array Slot} {nL : Nat} {L : List (Option Value)} (h : x_LR ad ls nL L) : lv_has ls nL (x_lp ad L) := by
  refine ⟨h.1, h.2.2.1, ?_⟩
  rintro ⟨i, w⟩ hq
  obtain ⟨v, h1, rfl⟩ := x_lp_mem.mp hq
  exact h.2.2.2 i v h1
theorem x_cv_cat (ad : Nat → Nat) (v : Value) : (x_cv ad v).category = v.category := by cases v <;> rfl
/-- may place i be written without cutting a long in two? -/
def x_ok1 (L : List (Option Value)) (i : Nat) : Bool := match i with
  | 0 => true
  | j + 1 => match L[j]? with
    | some (some v) => v.category == 1
    | _ => true
def x_st1 (L : List (Option Value)) (i : Nat) (v : Value) : Option (List (Option Value)) := if i < L.length ∧ x_ok1 L i = true then some (L.set i (some v)) else none
def x_st2 (L : List (Option Value)) (i : Nat) (v : Value) : Option (List (Option Value)) := if i + 1 < L.length ∧ x_ok1 L i = true then some ((L.set i (some v)).set (i + 1) none) else none
theorem x_ok1_at {L : List (Option Value)} {i j : Nat} {v : Value} (h : x_ok1 L i = true) (hj : j + 1 = i) (hv : L[j]? = some (some v)) : v.category = 1 := by
  subst hj
  simp only [x_ok1, hv] at h
  exact beq_iff_eq.mp h
theorem x_LR.st1 {ad : Nat → Nat} {ls ls' : Array Slot} {nL i : Nat} {L L' : List (Option Value)} {v w : Value} (h : x_LR ad ls nL L) (hs : x_st1 L i v = some L') (hw : w = x_cv ad v)
    (hl : lv_has ls' nL ((i, w) :: (x_lp ad L).filter (fun q => !(q.1 == i) && !(q.1 + 1 == i && q.2.category == 2)))) : x_LR ad ls' nL L' := by
  unfold x_st1 at hs
  split at hs
  · next hi =>
    cases hs
    refine ⟨hl.1, by rw [List.length_set]; exact h.2.1, hl.2.1, fun j u hu => ?_⟩
    rw [List.getElem?_set] at hu
    by_cases e : i = j
    · subst e
      rw [if_pos rfl, if_pos hi.1] at hu
      cases hu
      exact hl.2.2 (i, x_cv ad v) (by rw [← hw]; exact List.mem_cons_self)
    · rw [if_neg e] at hu
      refine hl.2.2 (j, x_cv ad u) (List.mem_cons_of_mem _ (List.mem_filter.mpr ⟨x_lp_mem.mpr ⟨u, hu, rfl⟩, ?_⟩))
      have e' : ¬ j = i := fun q => e q.symm
      by_cases g : j + 1 = i
      · have := x_ok1_at hi.2 g hu
        simp [e', x_cv_cat, this]
      · simp [e', g]
  · cases hs
theorem x_LR.st2 {ad : Nat → Nat} {ls ls' : Array Slot} {nL i : Nat} {L L' : List (Option Value)} {v w : Value} (h : x_LR ad ls nL L) (hs : x_st2 L i v = some L') (hw : w = x_cv ad v)
    (hl : lv_has ls' nL ((i, w) :: (x_lp ad L).filter (fun q => !(q.1 == i) && (!(q.1 == i + 1) && !(q.1 + 1 == i && q.2.category == 2))))) : x_LR ad ls' nL L' := by
  unfold x_st2 at hs
  split at hs
  · next hi =>
    cases hs
    refine ⟨hl.1, by rw [List.length_set, List.length_set]; exact h.2.1, hl.2.1, fun j u hu => ?_⟩
    rw [List.getElem?_set] at hu
    by_cases e2 : i + 1 = j
    · subst e2
      rw [if_pos rfl] at hu
      split at hu <;> cases hu
    rw [if_neg e2, List.getElem?_set] at hu
    by_cases e : i = j
    · subst e
      rw [if_pos rfl, if_pos (by omega)] at hu
      cases hu
      exact hl.2.2 (i, x_cv ad v) (by rw [← hw]; exact List.mem_cons_self)
    · rw [if_neg e] at hu
      refine hl.2.2 (j, x_cv ad u) (List.mem_cons_of_mem _ (List.mem_filter.mpr ⟨x_lp_mem.mpr ⟨u, hu, rfl⟩, ?_⟩))
      have e' : ¬ j = i := fun q => e q.symm
      have e3 : ¬ j = i + 1 := fun q => e2 q.symm
      by_cases g : j + 1 = i
      · have := x_ok1_at hi.2 g hu
        simp [e', e3, x_cv_cat, this]
      · simp [e', e3, g]
  · cases hs
end
section
/-! a frame over the memory -/
def x_aboL : List Int32 := [-1, 0, 1, 0, 3, 0]
def x_txt : List String := ["kind thing layer body", "span thing ask ever", "before behind around instead", "add mul own proceed call wake fail", "under", "need", "bar", "plain"]
def x_txI : List Nat := [53, 123, 182, 200, 85, 164, 171, 210]
def x_byt : List (List Int32) := x_txt.map (fun t => t.toList.map (fun c => Int32.ofNat c.toNat))
def x_len : List Nat := x_txt.map (fun t => t.length)
/-- what lies outside the memory: the table ABOVE, the String constants -/
def x_Ext (ad : Nat → Nat) (U : State) : Prop :=
  va_Z "WakingLayers$Asker" "ABOVE" "[I" (.ref (ad 900)) (x_A ad) U U.heap ∧ va_T .int (ad 900) 6 (fun j => .int (x_aboL.getD j 0)) (x_A ad) U U.heap ∧
  va_Z "java/lang/String" "COMPACT_STRINGS" "Z" (.int 1) (x_A ad) U U.heap ∧
  vk_S 8 x_len x_byt (fun i => ad (910 + i)) (fun i => ad (930 + i)) (x_A ad) U U.heap ∧
  ∀ i, i < 8 → vk_R "WakingLayers$Reader" (x_txI.getD i 0) (x_txt.getD i "") (ad (910 + i)) U
theorem x_Ext.go {ad : Nat → Nat} {s U : State} {H : Heap} {locs : List Loc} (h : x_Ext ad s) (hS : va_S (x_A ad) s.heap H locs) (hU : U.heap = H) (hW : s.WarmedH U.vm) : x_Ext ad U := by
  obtain ⟨h1, h2, h3, h4, h5⟩ := h
  subst hU
  exact ⟨(h1.kept hS.2.1).moved hW.alike, (h2.kept hS.2.1).moved hW.alike, (h3.kept hS.2.1).moved hW.alike, (h4.kept hS.2.1).moved hW.alike, fun i hi => vk_R.warm hW (h5 i hi)⟩
theorem x_Ext.same {ad : Nat → Nat} {s U : State} (h : x_Ext ad s) (hU : U.heap = s.heap) (hv : U.vm = s.vm) : x_Ext ad U := by
  obtain ⟨h1, h2, h3, h4, h5⟩ := h
  have hal : s.vm.Alike U.vm := by rw [hv]; exact Vm.Alike.refl _
  unfold x_Ext
  rw [hU]
  exact ⟨h1.moved hal, h2.moved hal, h3.moved hal, h4.moved hal, fun i hi => vk_R.same hv (h5 i hi)⟩
/-- a method: its name, bytes, locals, answer's type -/
abbrev xM : Type := MethodName × ByteArray × Nat × Option FieldType
def x_E (D : va_G) (cy : Nat → ClassId) (ad : Nat → Nat) (M : xM) (p : Program) (s : State) (m : MethodId) (args : Array Value) (c : Code) : Prop :=
  p.tables.exec = Jvm.exec ∧ c.code = M.2.1 ∧ c.maxLocals = M.2.2.1 ∧ s.vm.findClass M.1.cls = some m.cls ∧ (∀ w ∈ x_ws, w.before args s = true) ∧ va_K D vwCl (x_tys cy) s ∧ x_inj ad ∧ x_Ext ad s
section Wy
variable {p : Program} {l : Launch} {e : Env} {R : Room} {s : State} {m : MethodId} {args : Array Value} {below : List Frame} {meth : Method} {c : Code} {cells slots : Nat} {Qf : State → Prop} {D : va_G} {cy : Nat → ClassId} {ad : Nat → Nat} {M : xM}
def Wy (p : Program) (l : Launch) (e : Env) (R : Room) (s : State) (m : MethodId) (args : Array Value) (below : List Frame) (meth : Method) (c : Code) (cells slots : Nat) (Qf : State → Prop) (D : va_G) (cy : Nat → ClassId) (ad : Nat → Nat) (M : xM) (pc : Nat) (L : List (Option Value)) (st : List Value) (μ : xMu) : Prop :=
  ∀ (ls : Array Slot) (H : Heap) (locs : List Loc), x_LR ad ls M.2.2.1 L → va_P D vwCl (x_W cy ad μ) H → va_S (x_A ad) s.heap H locs → W p l e R s m args below meth c H locs cells slots Qf (F0 m pc ls (st.map (x_cv ad)))
/-! instructions without the heap -/
def x_sz1 : Instr → Nat
  | .bipush _ => 2 | .sipush _ => 3 | .iload _ => 2 | .lload _ => 2 | .aload _ => 2 | .istore _ => 2 | .lstore _ => 2 | .astore _ => 2 | .iinc _ _ => 3
  | _ => 1
def x_ldi (L : List (Option Value)) (st : List Value) (i : Nat) : Option (List (Option Value) × List Value) := match L[i]? with
  | some (some (.int x)) => some (L, .int x :: st)
  | _ => none
def x_ldl (L : List (Option Value)) (st : List Value) (i : Nat) : Option (List (Option Value) × List Value) := match L[i]? with
  | some (some (.long x)) => some (L, .long x :: st)
  | _ => none
def x_lda (L : List (Option Value)) (st : List Value) (i : Nat) : Option (List (Option Value) × List Value) := match L[i]? with
  | some (some (.ref x)) => some (L, .ref x :: st)
  | _ => none
def x_sti (L : List (Option Value)) (st : List Value) (i : Nat) : Option (List (Option Value) × List Value) := match st with
  | .int x :: r => (x_st1 L i (.int x)).map fun L' => (L', r)
  | _ => none
def x_stl (L : List (Option Value)) (st : List Value) (i : Nat) : Option (List (Option Value) × List Value) := match st with
  | .long x :: r => (x_st2 L i (.long x)).map fun L' => (L', r)
  | _ => none
def x_sta (L : List (Option Value)) (st : List Value) (i : Nat) : Option (List (Option Value) × List Value) := match st with
  | .ref x :: r => (x_st1 L i (.ref x)).map fun L' => (L', r)
  | _ => none
def x_ii (L : List (Option Value)) (st : List Value) (f : Int32 → Int32 → Int32) : Option (List (Option Value) × List Value) := match st with
  | .int y :: .int x :: r => some (L, .int (f x y) :: r)
  | _ => none
def x_ll (L : List (Option Value)) (st : List Value) (f : Int64 → Int64 → Int64) : Option (List (Option Value) × List Value) := match st with
  | .long y :: .long x :: r => some (L, .long (f x y) :: r)
  | _ => none
def x_li (L : List (Option Value)) (st : List Value) (f : Int64 → Int32 → Int64) : Option (List (Option Value) × List Value) := match st with
  | .int y :: .long x :: r => some (L, .long (f x y) :: r)
  | _ => none
def x_i1 (L : List (Option Value)) (st : List Value) (f : Int32 → Int32) : Option (List (Option Value) × List Value) := match st with
  | .int x :: r => some (L, .int (f x) :: r)
  | _ => none
def x_ev1 (i : Instr) (L : List (Option Value)) (st : List Value) : Option (List (Option Value) × List Value) := match i with
  | .iconst n => some (L, .int (Int32.ofInt n) :: st)
  | .bipush n => some (L, .int (Int8.ofInt n).toInt32 :: st)
  | .sipush n => some (L, .int (Int16.ofInt n).toInt32 :: st)
  | .lconst n => some (L, .long (Int64.ofNat (n : Nat)) :: st)
  | .iload_n k => x_ldi L st k
  | .iload k => x_ldi L st k
  | .lload_n k => x_ldl L st k
  | .lload k => x_ldl L st k
  | .aload_n k => x_lda L st k
  | .aload k => x_lda L st k
  | .istore_n k => x_sti L st k
  | .istore k => x_sti L st k
  | .lstore_n k => x_stl L st k
  | .lstore k => x_stl L st k
  | .astore_n k => x_sta L st k
  | .astore k => x_sta L st k
  | .iinc k n => match L[k]? with
    | some (some (.int x)) => (x_st1 L k (.int (x + Int32.ofInt n))).map fun L' => (L', st)
    | _ => none
  | .iadd => x_ii L st (fun x y => x + y)
  | .isub => x_ii L st (fun x y => x - y)
  | .imul => x_ii L st (fun x y => x * y)
  | .iand => x_ii L st (fun x y => x &&& y)
  | .ior => x_ii L st (fun x y => x ||| y)
  | .ixor => x_ii L st (fun x y => x ^^^ y)
  | .ishl => x_ii L st (fun x y => x <<< (y &&& 31))
  | .ishr => x_ii L st (fun x y => x >>> (y &&& 31))
  | .iushr => x_ii L st (fun x y => (x.toUInt32 >>> (y.toUInt32 &&& Int32.toUInt32 31)).toInt32)
  | .ladd => x_ll L st (fun x y => x + y)
  | .land => x_ll L st (fun x y => x &&& y)
  | .lor => x_ll L st (fun x y => x ||| y)
  | .lshl => x_li L st (fun x y => x <<< (y.toInt64 &&& 63))
  | .lshr => x_li L st (fun x y => x >>> (y.toInt64 &&& 63))
  | .lushr => x_li L st (fun x y => (x.toUInt64 >>> (y.toInt64.toUInt64 &&& Int64.toUInt64 63)).toInt64)
  | .i2l => match st with
    | .int x :: r => some (L, .long x.toInt64 :: r)
    | _ => none
  | .l2i => match st with
    | .long x :: r => some (L, .int x.toInt32 :: r)
    | _ => none
  | .i2b => x_i1 L st (fun x => x.toInt8.toInt32)
  | .i2s => x_i1 L st (fun x => x.toInt16.toInt32)
  | .i2c => x_i1 L st (fun x => (x.toUInt32 % 65536).toInt32)
  | .lcmp => match st with
    | .long y :: .long x :: r => some (L, .int (lg_cmp x y) :: r)
    | _ => none
  | .dup => match st with
    | .int x :: r => some (L, .int x :: .int x :: r)
    | .ref x :: r => some (L, .ref x :: .ref x :: r)
    | _ => none
  | .dup2 => match st with
    | .int x :: .ref y :: r => some (L, .int x :: .ref y :: .int x :: .ref y :: r)
    | _ => none
  | .pop => match st with
    | .int _ :: r => some (L, r)
    | _ => none
  | _ => none
theorem x_ldi_at {L L' : List (Option Value)} {st st' : List Value} {i : Nat} (h : x_ldi L st i = some (L', st')) : L' = L ∧ ∃ x, L[i]? = some (some (.int x)) ∧ st' = .int x :: st := by
  unfold x_ldi at h
  split at h
  · next x hx => cases h; exact ⟨rfl, x, hx, rfl⟩
  · cases h
theorem x_ldl_at {L L' : List (Option Value)} {st st' : List Value} {i : Nat} (h : x_ldl L st i = some (L', st')) : L' = L ∧ ∃ x, L[i]? = some (some (.long x)) ∧ st' = .long x :: st := by
  unfold x_ldl at h
  split at h
  · next x hx => cases h; exact ⟨rfl, x, hx, rfl⟩
  · cases h
theorem x_lda_at {L L' : List (Option Value)} {st st' : List Value} {i : Nat} (h : x_lda L st i = some (L', st')) : L' = L ∧ ∃ x, L[i]? = some (some (.ref x)) ∧ st' = .ref x :: st := by
  unfold x_lda at h
  split at h
  · next x hx => cases h; exact ⟨rfl, x, hx, rfl⟩
  · cases h
theorem x_sti_at {L L' : List (Option Value)} {st st' : List Value} {i : Nat} (h : x_sti L st i = some (L', st')) : ∃ x, st = .int x :: st' ∧ x_st1 L i (.int x) = some L' := by
  unfold x_sti at h
  split at h
  · next x r => 
    obtain ⟨a, h1, h2⟩ := Option.map_eq_some_iff.mp h
    cases h2; exact ⟨x, rfl, h1⟩
  · cases h
theorem x_stl_at {L L' : List (Option Value)} {st st' : List Value} {i : Nat} (h : x_stl L st i = some (L', st')) : ∃ x, st = .long x :: st' ∧ x_st2 L i (.long x) = some L' := by
  unfold x_stl at h
  split at h
  · next x r => 
    obtain ⟨a, h1, h2⟩ := Option.map_eq_some_iff.mp h
    cases h2; exact ⟨x, rfl, h1⟩
  · cases h
theorem x_sta_at {L L' : List (Option Value)} {st st' : List Value} {i : Nat} (h : x_sta L st i = some (L', st')) : ∃ x, st = .ref x :: st' ∧ x_st1 L i (.ref x) = some L' := by
  unfold x_sta at h
  split at h
  · next x r => 
    obtain ⟨a, h1, h2⟩ := Option.map_eq_some_iff.mp h
    cases h2; exact ⟨x, rfl, h1⟩
  · cases h
theorem x_st1_lt {L L' : List (Option Value)} {i : Nat} {v : Value} (h : x_st1 L i v = some L') : i < L.length := by
  unfold x_st1 at h
  split at h
  · next hi => exact hi.1
  · cases h
theorem x_st2_lt {L L' : List (Option Value)} {i : Nat} {v : Value} (h : x_st2 L i v = some L') : i + 1 < L.length := by
  unfold x_st2 at h
  split at h
  · next hi => exact hi.1
  · cases h
theorem x_ii_at {L L' : List (Option Value)} {st st' : List Value} {f : Int32 → Int32 → Int32} (h : x_ii L st f = some (L', st')) : L' = L ∧ ∃ x y r, st = .int y :: .int x :: r ∧ st' = .int (f x y) :: r := by
  unfold x_ii at h
  split at h
  · next y x r => cases h; exact ⟨rfl, x, y, r, rfl, rfl⟩
  · cases h
theorem x_ll_at {L L' : List (Option Value)} {st st' : List Value} {f : Int64 → Int64 → Int64} (h : x_ll L st f = some (L', st')) : L' = L ∧ ∃ x y r, st = .long y :: .long x :: r ∧ st' = .long (f x y) :: r := by
  unfold x_ll at h
  split at h
  · next y x r => cases h; exact ⟨rfl, x, y, r, rfl, rfl⟩
  · cases h
theorem x_li_at {L L' : List (Option Value)} {st st' : List Value} {f : Int64 → Int32 → Int64} (h : x_li L st f = some (L', st')) : L' = L ∧ ∃ x y r, st = .int y :: .long x :: r ∧ st' = .long (f x y) :: r := by
  unfold x_li at h
  split at h
  · next y x r => cases h; exact ⟨rfl, x, y, r, rfl, rfl⟩
  · cases h
theorem x_i1_at {L L' : List (Option Value)} {st st' : List Value} {f : Int32 → Int32} (h : x_i1 L st f = some (L', st')) : L' = L ∧ ∃ x r, st = .int x :: r ∧ st' = .int (f x) :: r := by
  unfold x_i1 at h
  split at h
  · next x r => cases h; exact ⟨rfl, x, r, rfl, rfl⟩
  · cases h
set_option maxHeartbeats 4000000 in
theorem wy_ev1 (E : x_E D cy ad M p s m args c) {pc : Nat} {L L' : List (Option Value)} {st st' : List Value} {μ : xMu} {i : Instr} (hd : decode M.2.1 pc = .ok (i, x_sz1 i)) (hev : x_ev1 i L st = some (L', st'))
    (k : Wy p l e R s m args below meth c cells slots Qf D cy ad M (pc + x_sz1 i) L' st' μ) : Wy p l e R s m args below meth c cells slots Qf D cy ad M pc L st μ := by
  obtain ⟨hx, hb, -⟩ := E
  intro ls H locs hl hP hS
  unfold x_ev1 at hev
  split at hev
  case h_1 n => cases hev; exact lv_iconst hx hb hd rfl (k ls H locs hl hP hS)
  case h_2 n => cases hev; exact lv_bipush hx hb hd rfl (k ls H locs hl hP hS)
  case h_3 n => cases hev; exact lv_sipush hx hb hd rfl (k ls H locs hl hP hS)
  case h_4 n => cases hev; exact lv_lconst hx hb hd rfl (k ls H locs hl hP hS)
  case h_5 n => obtain ⟨rfl, x, h1, rfl⟩ := x_ldi_at hev; exact lv_iload_n hx hb hd rfl (hl.2.2.2 _ _ h1) (k ls H locs hl hP hS)
  case h_6 n => obtain ⟨rfl, x, h1, rfl⟩ := x_ldi_at hev; exact lv_iload hx hb hd (hl.2.2.2 _ _ h1) (k ls H locs hl hP hS)
  case h_7 n => obtain ⟨rfl, x, h1, rfl⟩ := x_ldl_at hev; exact lv_lload_n hx hb hd rfl (hl.2.2.2 _ _ h1) (k ls H locs hl hP hS)
  case h_8 n => obtain ⟨rfl, x, h1, rfl⟩ := x_ldl_at hev; exact lv_lload hx hb hd (hl.2.2.2 _ _ h1) (k ls H locs hl hP hS)
  case h_9 n => obtain ⟨rfl, x, h1, rfl⟩ := x_lda_at hev; exact lv_aload_n hx hb hd rfl (hl.2.2.2 _ _ h1) (k ls H locs hl hP hS)
  case h_10 n => obtain ⟨rfl, x, h1, rfl⟩ := x_lda_at hev; exact lv_aload hx hb hd (hl.2.2.2 _ _ h1) (k ls H locs hl hP hS)
  case h_11 n => obtain ⟨x, rfl, h1⟩ := x_sti_at hev; exact lv_istore_n hx hb hd rfl hl.has (by rw [← hl.2.1]; exact x_st1_lt h1) rfl (fun ls' hl' => k ls' H locs (hl.st1 h1 rfl hl') hP hS)
  case h_12 n => obtain ⟨x, rfl, h1⟩ := x_sti_at hev; exact lv_istore hx hb hd hl.has (by rw [← hl.2.1]; exact x_st1_lt h1) rfl (fun ls' hl' => k ls' H locs (hl.st1 h1 rfl hl') hP hS)
  case h_13 n => obtain ⟨x, rfl, h1⟩ := x_stl_at hev; exact lv_lstore_n hx hb hd rfl hl.has (by rw [← hl.2.1]; exact x_st2_lt h1) rfl (fun ls' hl' => k ls' H locs (hl.st2 h1 rfl hl') hP hS)
  case h_14 n => obtain ⟨x, rfl, h1⟩ := x_stl_at hev; exact lv_lstore hx hb hd hl.has (by rw [← hl.2.1]; exact x_st2_lt h1) rfl (fun ls' hl' => k ls' H locs (hl.st2 h1 rfl hl') hP hS)
  case h_15 n => obtain ⟨x, rfl, h1⟩ := x_sta_at hev; exact lv_astore_n hx hb hd rfl hl.has (by rw [← hl.2.1]; exact x_st1_lt h1) rfl (fun ls' hl' => k ls' H locs (hl.st1 h1 rfl hl') hP hS)
  case h_16 n => obtain ⟨x, rfl, h1⟩ := x_sta_at hev; exact lv_astore hx hb hd hl.has (by rw [← hl.2.1]; exact x_st1_lt h1) rfl (fun ls' hl' => k ls' H locs (hl.st1 h1 rfl hl') hP hS)
  case h_17 kk n =>
    split at hev
    · next x hx1 =>
      obtain ⟨a, h1, h2⟩ := Option.map_eq_some_iff.mp hev
      cases h2
      have hm : (kk, x_cv ad (.int x)) ∈ x_lp ad L := x_lp_mem.mpr ⟨_, hx1, rfl⟩
      obtain ⟨j, hj⟩ := List.getElem?_of_mem hm
      exact lv_iinc hx hb hd hl.has hj rfl (by rw [← hl.2.1]; exact x_st1_lt h1) rfl (fun ls' hl' => k ls' H locs (hl.st1 h1 rfl hl') hP hS)
    · cases hev
  case h_18 => obtain ⟨rfl, x, y, r, rfl, rfl⟩ := x_ii_at hev; exact lv_iadd hx hb hd (k ls H locs hl hP hS)
  case h_19 => obtain ⟨rfl, x, y, r, rfl, rfl⟩ := x_ii_at hev; exact lv_isub hx hb hd (k ls H locs hl hP hS)
  case h_20 => obtain ⟨rfl, x, y, r, rfl, rfl⟩ := x_ii_at hev; exact lv_imul hx hb hd (k ls H locs hl hP hS)
  case h_21 => obtain ⟨rfl, x, y, r, rfl, rfl⟩ := x_ii_at hev; exact lv_iand hx hb hd (k ls H locs hl hP hS)
  case h_22 => obtain ⟨rfl, x, y, r, rfl, rfl⟩ := x_ii_at hev; exact lv_ior hx hb hd (k ls H locs hl hP hS)
  case h_23 => obtain ⟨rfl, x, y, r, rfl, rfl⟩ := x_ii_at hev; exact lv_ixor hx hb hd (k ls H locs hl hP hS)
  case h_24 => obtain ⟨rfl, x, y, r, rfl, rfl⟩ := x_ii_at hev; exact lv_ishl hx hb hd (k ls H locs hl hP hS)
  case h_25 => obtain ⟨rfl, x, y, r, rfl, rfl⟩ := x_ii_at hev; exact lv_ishr hx hb hd (k ls H locs hl hP hS)
  case h_26 => obtain ⟨rfl, x, y, r, rfl, rfl⟩ := x_ii_at hev; exact lv_iushr hx hb hd rfl (k ls H locs hl hP hS)
  case h_27 => obtain ⟨rfl, x, y, r, rfl, rfl⟩ := x_ll_at hev; exact lv_ladd hx hb hd (k ls H locs hl hP hS)
  case h_28 => obtain ⟨rfl, x, y, r, rfl, rfl⟩ := x_ll_at hev; exact lv_land hx hb hd (k ls H locs hl hP hS)
  case h_29 => obtain ⟨rfl, x, y, r, rfl, rfl⟩ := x_ll_at hev; exact lv_lor hx hb hd (k ls H locs hl hP hS)
  case h_30 => obtain ⟨rfl, x, y, r, rfl, rfl⟩ := x_li_at hev; exact lv_lshl hx hb hd rfl (k ls H locs hl hP hS)
  case h_31 => obtain ⟨rfl, x, y, r, rfl, rfl⟩ := x_li_at hev; exact lv_lshr hx hb hd rfl (k ls H locs hl hP hS)
  case h_32 => obtain ⟨rfl, x, y, r, rfl, rfl⟩ := x_li_at hev; exact lv_lushr hx hb hd rfl (k ls H locs hl hP hS)
  case h_33 =>
    split at hev
    · cases hev; exact lv_i2l hx hb hd rfl (k ls H locs hl hP hS)
    · cases hev
  case h_34 =>
    split at hev
    · cases hev; exact lv_l2i hx hb hd rfl (k ls H locs hl hP hS)
    · cases hev
  case h_35 => obtain ⟨rfl, x, r, rfl, rfl⟩ := x_i1_at hev; exact lv_i2b hx hb hd rfl (k ls H locs hl hP hS)
  case h_36 => obtain ⟨rfl, x, r, rfl, rfl⟩ := x_i1_at hev; exact lv_i2s hx hb hd rfl (k ls H locs hl hP hS)
  case h_37 => obtain ⟨rfl, x, r, rfl, rfl⟩ := x_i1_at hev; exact lv_i2c hx hb hd rfl (k ls H locs hl hP hS)
  case h_38 =>
    split at hev
    · cases hev; exact W.lcmp hx hb hd (k ls H locs hl hP hS)
    · cases hev
  case h_39 =>
    split at hev
    · cases hev; exact lv_dup hx hb hd rfl (k ls H locs hl hP hS)
    · cases hev; exact lv_dup hx hb hd rfl (k ls H locs hl hP hS)
    · cases hev
  case h_40 =>
    split at hev
    · cases hev; exact lv_dup2_11 hx hb hd rfl rfl (k ls H locs hl hP hS)
    · cases hev
  case h_41 =>
    split at hev
    · cases hev; exact lv_pop hx hb hd rfl (k ls H locs hl hP hS)
    · cases hev
  case h_42 => cases hev
end Wy
end
section
/-! rows with the heap, branches, calls -/
def x_dec (cc : ByteArray) : Nat → List Instr → Bool
  | _, [] => true
  | pc, i :: r => decide (decode cc pc = .ok (i, x_sz1 i)) && x_dec cc (pc + x_sz1 i) r
def x_evs : List Instr → List (Option Value) → List Value → Option (List (Option Value) × List Value)
  | [], L, st => some (L, st)
  | i :: r, L, st => match x_ev1 i L st with
    | some q => x_evs r q.1 q.2
    | none => none
def x_szs : List Instr → Nat
  | [] => 0
  | i :: r => x_sz1 i + x_szs r
def x_rm (d : Nat) : Room := { frames := d, cells := 0, slots := 0, locals := 40 * d }
def x_wsM (M : xM) : List Cond := .code M.1 M.2.1 M.2.2.1 M.2.2.2 :: x_ws
def x_Pc (D : va_G) (cy : Nat → ClassId) (ad : Nat → Nat) (as : List Value) (μ : xMu) : Array Value → State → Prop :=
  va_Pc (as.map (x_cv ad)) (fun U => va_P D vwCl (x_W cy ad μ) U.heap ∧ va_K D vwCl (x_tys cy) U ∧ x_inj ad ∧ x_Ext ad U)
def x_Q (D : va_G) (cy : Nat → ClassId) (ad : Nat → Nat) (r : Option Value) (μ : xMu) : Array Value → State → Outcome → State → Prop :=
  fun _ st o t => o = .returned (r.map (x_cv ad)) ∧ va_P D vwCl (x_W cy ad μ) t.heap ∧ va_F (x_A ad) st t
def x_ok (M : xM) : Prop := Cond.code M.1 M.2.1 M.2.2.1 M.2.2.2 ∈ x_ws ∧ plainName M.1.cls = true ∧ (M.1.cls ≠ "java/lang/invoke/MethodHandle" ∧ M.1.cls ≠ "java/lang/invoke/VarHandle") ∧ Cond.initialized M.1.cls ∈ x_ws ∧ M.2.2.1 ≤ 21
theorem x_blind {D : va_G} {cy : Nat → ClassId} {ad : Nat → Nat} {as : List Value} {μ : xMu} : FrameBlind (x_Pc D cy ad as μ) := by
  intro a U g mk h
  obtain ⟨h1, h2, h3, h4, h5⟩ := h
  exact ⟨h1, h2, va_K.moved (u := U) (U := U.calling g mk a) (Vm.Alike.refl U.vm) h3, h4, h5.same rfl rfl⟩
section Wy2
variable {p : Program} {l : Launch} {e : Env} {R : Room} {s : State} {m : MethodId} {args : Array Value} {below : List Frame} {meth : Method} {c : Code} {cells slots : Nat} {Qf : State → Prop} {D : va_G} {cy : Nat → ClassId} {ad : Nat → Nat} {M : xM} {pc : Nat} {L : List (Option Value)} {st : List Value} {μ : xMu}
theorem wy_blk (E : x_E D cy ad M p s m args c) : ∀ (is : List Instr) {pc pc' : Nat} {L L' : List (Option Value)} {st st' : List Value}, x_dec M.2.1 pc is = true → x_evs is L st = some (L', st') → pc + x_szs is = pc' →
    Wy p l e R s m args below meth c cells slots Qf D cy ad M pc' L' st' μ → Wy p l e R s m args below meth c cells slots Qf D cy ad M pc L st μ
  | [], pc, pc', L, L', st, st', _, h2, h3, k => by
    cases h2
    subst h3
    exact k
  | i :: r, pc, pc', L, L', st, st', h1, h2, h3, k => by
    simp only [x_dec, Bool.and_eq_true, decide_eq_true_eq] at h1
    unfold x_evs at h2
    split at h2
    · next q hq =>
      exact wy_ev1 E h1.1 (L' := q.1) (st' := q.2) hq (wy_blk E r h1.2 h2 (by rw [← h3]; simp only [x_szs]; omega) k)
    · cases h2
theorem wy_goto (E : x_E D cy ad M p s m args c) {off : Int} {tgt : Nat} (hd : decode M.2.1 pc = .ok (.goto off, 3)) (ht : (pc : Int) + off = (tgt : Int)) (k : Wy p l e R s m args below meth c cells slots Qf D cy ad M tgt L st μ) : Wy p l e R s m args below meth c cells slots Qf D cy ad M pc L st μ :=
  fun ls H locs hl hP hS => lv_goto E.1 E.2.1 hd ht (k ls H locs hl hP hS)
theorem wy_if_eq (E : x_E D cy ad M p s m args c) {x : Int32} {off : Int} {tgt : Nat} (hd : decode M.2.1 pc = .ok (.ifCond .eq off, 3)) (ht : (pc : Int) + off = (tgt : Int)) (kt : x = 0 → Wy p l e R s m args below meth c cells slots Qf D cy ad M tgt L st μ) (kf : ¬ x = 0 → Wy p l e R s m args below meth c cells slots Qf D cy ad M (pc + 3) L st μ) : Wy p l e R s m args below meth c cells slots Qf D cy ad M pc L (.int x :: st) μ :=
  fun ls H locs hl hP hS => lv_if_eq E.1 E.2.1 hd ht (fun h => kt h ls H locs hl hP hS) (fun h => kf h ls H locs hl hP hS)
theorem wy_if_ne (E : x_E D cy ad M p s m args c) {x : Int32} {off : Int} {tgt : Nat} (hd : decode M.2.1 pc = .ok (.ifCond .ne off, 3)) (ht : (pc : Int) + off = (tgt : Int)) (kt : ¬ x = 0 → Wy p l e R s m args below meth c cells slots Qf D cy ad M tgt L st μ) (kf : x = 0 → Wy p l e R s m args below meth c cells slots Qf D cy ad M (pc + 3) L st μ) : Wy p l e R s m args below meth c cells slots Qf D cy ad M pc L (.int x :: st) μ :=
  fun ls H locs hl hP hS => lv_if_ne E.1 E.2.1 hd ht (fun h => kt h ls H locs hl hP hS) (fun h => kf h ls H locs hl hP hS)
theorem wy_if_lt (E : x_E D cy ad M p s m args c) {x : Int32} {off : Int} {tgt : Nat} (hd : decode M.2.1 pc = .ok (.ifCond .lt off, 3)) (ht : (pc : Int) + off = (tgt : Int)) (kt : x < 0 → Wy p l e R s m args below meth c cells slots Qf D cy ad M tgt L st μ) (kf : ¬ x < 0 → Wy p l e R s m args below meth c cells slots Qf D cy ad M (pc + 3) L st μ) : Wy p l e R s m args below meth c cells slots Qf D cy ad M pc L (.int x :: st) μ :=
  fun ls H locs hl hP hS => lv_if_lt E.1 E.2.1 hd ht (fun h => kt h ls H locs hl hP hS) (fun h => kf h ls H locs hl hP hS)
theorem wy_if_ge (E : x_E D cy ad M p s m args c) {x : Int32} {off : Int} {tgt : Nat} (hd : decode M.2.1 pc = .ok (.ifCond .ge off, 3)) (ht : (pc : Int) + off = (tgt : Int)) (kt : 0 ≤ x → Wy p l e R s m args below meth c cells slots Qf D cy ad M tgt L st μ) (kf : ¬ 0 ≤ x → Wy p l e R s m args below meth c cells slots Qf D cy ad M (pc + 3) L st μ) : Wy p l e R s m args below meth c cells slots Qf D cy ad M pc L (.int x :: st) μ :=
  fun ls H locs hl hP hS => lv_if_ge E.1 E.2.1 hd ht (fun h => kt h ls H locs hl hP hS) (fun h => kf h ls H locs hl hP hS)
theorem wy_if_gt (E : x_E D cy ad M p s m args c) {x : Int32} {off : Int} {tgt : Nat} (hd : decode M.2.1 pc = .ok (.ifCond .gt off, 3)) (ht : (pc : Int) + off = (tgt : Int)) (kt : 0 < x → Wy p l e R s m args below meth c cells slots Qf D cy ad M tgt L st μ) (kf : ¬ 0 < x → Wy p l e R s m args below meth c cells slots Qf D cy ad M (pc + 3) L st μ) : Wy p l e R s m args below meth c cells slots Qf D cy ad M pc L (.int x :: st) μ :=
  fun ls H locs hl hP hS => lv_if_gt E.1 E.2.1 hd ht (fun h => kt h ls H locs hl hP hS) (fun h => kf h ls H locs hl hP hS)
theorem wy_if_le (E : x_E D cy ad M p s m args c) {x : Int32} {off : Int} {tgt : Nat} (hd : decode M.2.1 pc = .ok (.ifCond .le off, 3)) (ht : (pc : Int) + off = (tgt : Int)) (kt : x ≤ 0 → Wy p l e R s m args below meth c cells slots Qf D cy ad M tgt L st μ) (kf : ¬ x ≤ 0 → Wy p l e R s m args below meth c cells slots Qf D cy ad M (pc + 3) L st μ) : Wy p l e R s m args below meth c cells slots Qf D cy ad M pc L (.int x :: st) μ :=
  fun ls H locs hl hP hS => lv_if_le E.1 E.2.1 hd ht (fun h => kt h ls H locs hl hP hS) (fun h => kf h ls H locs hl hP hS)
theorem wy_ic_eq (E : x_E D cy ad M p s m args c) {x y : Int32} {off : Int} {tgt : Nat} (hd : decode M.2.1 pc = .ok (.if_icmp .eq off, 3)) (ht : (pc : Int) + off = (tgt : Int)) (kt : x = y → Wy p l e R s m args below meth c cells slots Qf D cy ad M tgt L st μ) (kf : ¬ x = y → Wy p l e R s m args below meth c cells slots Qf D cy ad M (pc + 3) L st μ) : Wy p l e R s m args below meth c cells slots Qf D cy ad M pc L (.int y :: .int x :: st) μ :=
  fun ls H locs hl hP hS => lv_icmp_eq E.1 E.2.1 hd ht (fun h => kt h ls H locs hl hP hS) (fun h => kf h ls H locs hl hP hS)
theorem wy_ic_ne (E : x_E D cy ad M p s m args c) {x y : Int32} {off : Int} {tgt : Nat} (hd : decode M.2.1 pc = .ok (.if_icmp .ne off, 3)) (ht : (pc : Int) + off = (tgt : Int)) (kt : ¬ x = y → Wy p l e R s m args below meth c cells slots Qf D cy ad M tgt L st μ) (kf : x = y → Wy p l e R s m args below meth c cells slots Qf D cy ad M (pc + 3) L st μ) : Wy p l e R s m args below meth c cells slots Qf D cy ad M pc L (.int y :: .int x :: st) μ :=
  fun ls H locs hl hP hS => lv_icmp_ne E.1 E.2.1 hd ht (fun h => kt h ls H locs hl hP hS) (fun h => kf h ls H locs hl hP hS)
theorem wy_ic_lt (E : x_E D cy ad M p s m args c) {x y : Int32} {off : Int} {tgt : Nat} (hd : decode M.2.1 pc = .ok (.if_icmp .lt off, 3)) (ht : (pc : Int) + off = (tgt : Int)) (kt : x < y → Wy p l e R s m args below meth c cells slots Qf D cy ad M tgt L st μ) (kf : ¬ x < y → Wy p l e R s m args below meth c cells slots Qf D cy ad M (pc + 3) L st μ) : Wy p l e R s m args below meth c cells slots Qf D cy ad M pc L (.int y :: .int x :: st) μ :=
  fun ls H locs hl hP hS => lv_icmp_lt E.1 E.2.1 hd ht (fun h => kt h ls H locs hl hP hS) (fun h => kf h ls H locs hl hP hS)
theorem wy_ic_ge (E : x_E D cy ad M p s m args c) {x y : Int32} {off : Int} {tgt : Nat} (hd : decode M.2.1 pc = .ok (.if_icmp .ge off, 3)) (ht : (pc : Int) + off = (tgt : Int)) (kt : y ≤ x → Wy p l e R s m args below meth c cells slots Qf D cy ad M tgt L st μ) (kf : ¬ y ≤ x → Wy p l e R s m args below meth c cells slots Qf D cy ad M (pc + 3) L st μ) : Wy p l e R s m args below meth c cells slots Qf D cy ad M pc L (.int y :: .int x :: st) μ :=
  fun ls H locs hl hP hS => lv_icmp_ge E.1 E.2.1 hd ht (fun h => kt h ls H locs hl hP hS) (fun h => kf h ls H locs hl hP hS)
theorem wy_ic_gt (E : x_E D cy ad M p s m args c) {x y : Int32} {off : Int} {tgt : Nat} (hd : decode M.2.1 pc = .ok (.if_icmp .gt off, 3)) (ht : (pc : Int) + off = (tgt : Int)) (kt : y < x → Wy p l e R s m args below meth c cells slots Qf D cy ad M tgt L st μ) (kf : ¬ y < x → Wy p l e R s m args below meth c cells slots Qf D cy ad M (pc + 3) L st μ) : Wy p l e R s m args below meth c cells slots Qf D cy ad M pc L (.int y :: .int x :: st) μ :=
  fun ls H locs hl hP hS => lv_icmp_gt E.1 E.2.1 hd ht (fun h => kt h ls H locs hl hP hS) (fun h => kf h ls H locs hl hP hS)
theorem wy_ic_le (E : x_E D cy ad M p s m args c) {x y : Int32} {off : Int} {tgt : Nat} (hd : decode M.2.1 pc = .ok (.if_icmp .le off, 3)) (ht : (pc : Int) + off = (tgt : Int)) (kt : x ≤ y → Wy p l e R s m args below meth c cells slots Qf D cy ad M tgt L st μ) (kf : ¬ x ≤ y → Wy p l e R s m args below meth c cells slots Qf D cy ad M (pc + 3) L st μ) : Wy p l e R s m args below meth c cells slots Qf D cy ad M pc L (.int y :: .int x :: st) μ :=
  fun ls H locs hl hP hS => lv_icmp_le E.1 E.2.1 hd ht (fun h => kt h ls H locs hl hP hS) (fun h => kf h ls H locs hl hP hS)
theorem wy_idiv (E : x_E D cy ad M p s m args c) {x y : Int32} (hd : decode M.2.1 pc = .ok (.idiv, 1)) (hne : ¬ y = 0) (k : Wy p l e R s m args below meth c cells slots Qf D cy ad M (pc + 1) L (.int (x / y) :: st) μ) : Wy p l e R s m args below meth c cells slots Qf D cy ad M pc L (.int y :: .int x :: st) μ :=
  fun ls H locs hl hP hS => lv_idiv E.1 E.2.1 hd hne (k ls H locs hl hP hS)
theorem wy_irem (E : x_E D cy ad M p s m args c) {x y : Int32} (hd : decode M.2.1 pc = .ok (.irem, 1)) (hne : ¬ y = 0) (k : Wy p l e R s m args below meth c cells slots Qf D cy ad M (pc + 1) L (.int (x - x / y * y) :: st) μ) : Wy p l e R s m args below meth c cells slots Qf D cy ad M pc L (.int y :: .int x :: st) μ :=
  fun ls H locs hl hP hS => lv_irem E.1 E.2.1 hd hne (k ls H locs hl hP hS)
theorem wy_ldc (E : x_E D cy ad M p s m args c) {idx : Nat} {v : Int32} (hw : Cond.constant M.1.cls idx v ∈ x_ws) (hd : decode M.2.1 pc = .ok (.ldc idx, 2)) (k : Wy p l e R s m args below meth c cells slots Qf D cy ad M (pc + 2) L (.int v :: st) μ) : Wy p l e R s m args below meth c cells slots Qf D cy ad M pc L st μ :=
  fun ls H locs hl hP hS => lv_ldc E.1 E.2.1 E.2.2.2.1 (E.2.2.2.2.1 _ hw) hd (k ls H locs hl hP hS)
theorem wy_ldc2 (E : x_E D cy ad M p s m args c) {idx : Nat} {v : Int64} (hw : Cond.constantLong M.1.cls idx v ∈ x_ws) (hd : decode M.2.1 pc = .ok (.ldc2_w idx, 3)) (k : Wy p l e R s m args below meth c cells slots Qf D cy ad M (pc + 3) L (.long v :: st) μ) : Wy p l e R s m args below meth c cells slots Qf D cy ad M pc L st μ :=
  fun ls H locs hl hP hS => lv_ldc2 E.1 E.2.1 E.2.2.2.1 (E.2.2.2.2.1 _ hw) hd (k ls H locs hl hP hS)
theorem wy_ldcs (E : x_E D cy ad M p s m args c) {i : Nat} (hi : i < 8) (ho : M.1.cls = "WakingLayers$Reader") (hd : decode M.2.1 pc = .ok (.ldc (x_txI.getD i 0), 2)) (k : Wy p l e R s m args below meth c cells slots Qf D cy ad M (pc + 2) L (.ref (910 + i) :: st) μ) : Wy p l e R s m args below meth c cells slots Qf D cy ad M pc L st μ := by
  intro ls H locs hl hP hS
  obtain ⟨hx, hb, hml, hown, hts, hK, hinj, hE⟩ := E
  exact va_ldcS hx hb (by rw [← ho]; exact hown) (hE.2.2.2.2 i hi) hd (k ls H locs hl hP hS)
/-- a field of class ci by the entry idx of the own class's pool -/
def x_FF (own : String) (idx ci j : Nat) (C : String) (T : u_T) (N : Nat) : Prop := vwCl[ci]? = some (C, T, N) ∧ ci < 13 ∧ (∀ w ∈ u_ws C T N, w ∈ x_ws) ∧ j < N ∧ Cond.fieldLink own idx C (T j).2.1 (T j).2.2.1 ∈ x_ws ∧ (T j).1 = C
theorem x_fs_at {ad : Nat → Nat} {μ : xMu} {k j : Nat} (h : j < x_sz k) : ((List.range (x_sz k)).map (fun j => x_cv ad (x_fv μ k j)))[j]? = some (x_cv ad (x_fv μ k j)) := by
  simp [h]
theorem x_nfC : ∀ ci, ci < 13 → ∀ q : vw_C, vwCl[ci]? = some q → x_nf ci = q.2.2 := by
  intro ci h q hq
  match ci, h, hq with
  | 0, _, hq => cases hq; rfl
  | 1, _, hq => cases hq; rfl
  | 2, _, hq => cases hq; rfl
  | 3, _, hq => cases hq; rfl
  | 4, _, hq => cases hq; rfl
  | 5, _, hq => cases hq; rfl
  | 6, _, hq => cases hq; rfl
  | 7, _, hq => cases hq; rfl
  | 8, _, hq => cases hq; rfl
  | 9, _, hq => cases hq; rfl
  | 10, _, hq => cases hq; rfl
  | 11, _, hq => cases hq; rfl
  | 12, _, hq => cases hq; rfl
  | n + 13, h, _ => omega
theorem wy_get (E : x_E D cy ad M p s m args c) {k idx ci j N : Nat} {C : String} {T : u_T} (hk : x_is k ci) (F : x_FF M.1.cls idx ci j C T N) (hd : decode M.2.1 pc = .ok (.getfield idx, 3)) (kk : Wy p l e R s m args below meth c cells slots Qf D cy ad M (pc + 3) L (x_fv μ k j :: st) μ) : Wy p l e R s m args below meth c cells slots Qf D cy ad M pc L (.ref k :: st) μ := by
  intro ls H locs hl hP hS
  obtain ⟨hx, hb, hml, hown, hts, hK, hinj, hE⟩ := E
  obtain ⟨hc, hci, hin, hj, hlink, hC⟩ := F
  have hsz : x_sz k = N := by rw [x_szf k hk.1 (by rw [hk.2]; exact hci), hk.2, x_nfC ci hci _ hc]
  have he := x_W_at (cy := cy) (ad := ad) (μ := μ) hk.1
  rw [x_cell_o hk.2 hci] at he
  exact va_get (ref := C) hx hb hts hin hown hK hP k he hc j hj (hts _ hlink) (fun x h => by rw [← hC]; exact h) (x_fs_at (by rw [hsz]; exact hj)) hd (kk ls H locs hl hP hS)
/-- what the class's table says of a field that may be written -/
def x_FP (ci j : Nat) (T : u_T) (N : Nat) (ty0 : Nat → FieldType) (ty : FieldType) : Prop := (∀ k, k < N → parseFieldDescriptor (T k).2.2.1 = some (ty0 k)) ∧ (∀ a, a < N → ∀ b, b < N → a ≠ b → (T a).2.1 ≠ (T b).2.1) ∧ (T j).2.2.2 = false ∧ parseFieldDescriptor (T j).2.2.1 = some ty ∧ x_fr ci j = false
theorem wy_put (E : x_E D cy ad M p s m args c) {k idx ci j N : Nat} {C : String} {T : u_T} {ty0 : Nat → FieldType} {ty : FieldType} {v : Int32} (hk : x_is k ci) (F : x_FF M.1.cls idx ci j C T N) (P : x_FP ci j T N ty0 ty) (hn : narrow ty (.int v) = .int v) (hfit : fits ty (.int v) = true) (hd : decode M.2.1 pc = .ok (.putfield idx, 3)) (kk : Wy p l e R s m args below meth c cells slots Qf D cy ad M (pc + 3) L st (x_wr μ k j v)) : Wy p l e R s m args below meth c cells slots Qf D cy ad M pc L (.int v :: .ref k :: st) μ := by
  intro ls H locs hl hP hS
  obtain ⟨hx, hb, hml, hown, hts, hK, hinj, hE⟩ := E
  obtain ⟨hc, hci, hin, hj, hlink, hC⟩ := F
  obtain ⟨hty, hnm, hfin, hpd, hfr⟩ := P
  have hsz : x_sz k = N := by rw [x_szf k hk.1 (by rw [hk.2]; exact hci), hk.2, x_nfC ci hci _ hc]
  have he := x_W_at (cy := cy) (ad := ad) (μ := μ) hk.1
  rw [x_cell_o hk.2 hci] at he
  refine va_put (v := .int v) (ref := C) hx hb hts hin ty0 hty hnm hown hK hP (x_D hinj) hS k he hc j hj (hts _ hlink) (fun x h => by rw [← hC]; exact h) hfin hpd hn hfit (by simp [hsz]; exact hj) hd (fun H1 locs1 hP1 _ hS1 => ?_)
  rw [x_W_set (x_put_cell hk.2 hci hfr) (fun a h => x_cell_ne h)] at hP1
  exact kk ls H1 locs1 hl hP1 hS1
theorem wy_iald (E : x_E D cy ad M p s m args c) {k : Nat} {i : Int32} (hk : x_is k 13) (hin : vp_in i (x_sz k)) (hd : decode M.2.1 pc = .ok (.iaload, 1)) (kk : Wy p l e R s m args below meth c cells slots Qf D cy ad M (pc + 1) L (.int (μ k i.toNatClampNeg) :: st) μ) : Wy p l e R s m args below meth c cells slots Qf D cy ad M pc L (.int i :: .ref k :: st) μ := by
  intro ls H locs hl hP hS
  obtain ⟨hx, hb, hml, hown, hts, hK, hinj, hE⟩ := E
  have he := x_W_at (cy := cy) (ad := ad) (μ := μ) hk.1
  rw [x_cell_i hk.2] at he
  exact va_iald hx hb hK hP k 0 he rfl hin hd (kk ls H locs hl hP hS)
theorem wy_iast (E : x_E D cy ad M p s m args c) {k : Nat} {i v : Int32} (hk : x_is k 13) (hin : vp_in i (x_sz k)) (hd : decode M.2.1 pc = .ok (.iastore, 1)) (kk : Wy p l e R s m args below meth c cells slots Qf D cy ad M (pc + 1) L st (x_wr μ k i.toNatClampNeg v)) : Wy p l e R s m args below meth c cells slots Qf D cy ad M pc L (.int v :: .int i :: .ref k :: st) μ := by
  intro ls H locs hl hP hS
  obtain ⟨hx, hb, hml, hown, hts, hK, hinj, hE⟩ := E
  have he := x_W_at (cy := cy) (ad := ad) (μ := μ) hk.1
  rw [x_cell_i hk.2] at he
  refine va_iast hx hb hK hP (x_D hinj) hS k 0 he rfl hin hd (fun H1 locs1 hP1 _ hS1 => ?_)
  rw [x_W_set (μ' := x_wr μ k i.toNatClampNeg v) (by rw [x_cell_i hk.2, x_wr_row]) (fun a h => x_cell_ne h)] at hP1
  exact kk ls H1 locs1 hl hP1 hS1
theorem wy_zald (E : x_E D cy ad M p s m args c) {k : Nat} {i : Int32} (hk : x_is k 14) (hin : vp_in i (x_sz k)) (hd : decode M.2.1 pc = .ok (.baload, 1)) (kk : Wy p l e R s m args below meth c cells slots Qf D cy ad M (pc + 1) L (.int (μ k i.toNatClampNeg) :: st) μ) : Wy p l e R s m args below meth c cells slots Qf D cy ad M pc L (.int i :: .ref k :: st) μ := by
  intro ls H locs hl hP hS
  obtain ⟨hx, hb, hml, hown, hts, hK, hinj, hE⟩ := E
  have he := x_W_at (cy := cy) (ad := ad) (μ := μ) hk.1
  rw [x_cell_z hk.2] at he
  exact va_zald hx hb hK hP k 1 he rfl hin hd (kk ls H locs hl hP hS)
theorem wy_zast (E : x_E D cy ad M p s m args c) {k : Nat} {i v : Int32} (hk : x_is k 14) (hin : vp_in i (x_sz k)) (hd : decode M.2.1 pc = .ok (.bastore, 1)) (kk : Wy p l e R s m args below meth c cells slots Qf D cy ad M (pc + 1) L st (x_wr μ k i.toNatClampNeg (vp_nar .boolean v))) : Wy p l e R s m args below meth c cells slots Qf D cy ad M pc L (.int v :: .int i :: .ref k :: st) μ := by
  intro ls H locs hl hP hS
  obtain ⟨hx, hb, hml, hown, hts, hK, hinj, hE⟩ := E
  have he := x_W_at (cy := cy) (ad := ad) (μ := μ) hk.1
  rw [x_cell_z hk.2] at he
  refine va_zast hx hb hK hP (x_D hinj) hS k 1 he rfl hin hd (fun H1 locs1 hP1 _ hS1 => ?_)
  rw [x_W_set (μ' := x_wr μ k i.toNatClampNeg (vp_nar .boolean v)) (by rw [x_cell_z hk.2, x_wr_row]) (fun a h => x_cell_ne h)] at hP1
  exact kk ls H1 locs1 hl hP1 hS1
theorem x_tyr {cy : Nat → ClassId} {cx : Nat} (h : ¬ cx < 15) (h2 : cx < 18) : ∃ (t : Nat) (ty : FieldType), (x_tys cy)[t]? = some (cy cx, ty) ∧ ty.isReference = true := by
  rcases (show cx = 15 ∨ cx = 16 ∨ cx = 17 by omega) with rfl | rfl | rfl
  · exact ⟨2, _, rfl, rfl⟩
  · exact ⟨3, _, rfl, rfl⟩
  · exact ⟨4, _, rfl, rfl⟩
theorem wy_aald (E : x_E D cy ad M p s m args c) {k cx r : Nat} {i : Int32} (hk : x_is k cx) (hcx : ¬ cx < 15) (hin : vp_in i (x_sz k)) (hr : x_rf k i.toNatClampNeg = some r) (hd : decode M.2.1 pc = .ok (.aaload, 1)) (kk : Wy p l e R s m args below meth c cells slots Qf D cy ad M (pc + 1) L (.ref r :: st) μ) : Wy p l e R s m args below meth c cells slots Qf D cy ad M pc L (.int i :: .ref k :: st) μ := by
  intro ls H locs hl hP hS
  obtain ⟨hx, hb, hml, hown, hts, hK, hinj, hE⟩ := E
  have he := x_W_at (cy := cy) (ad := ad) (μ := μ) hk.1
  rw [x_cell_r hk.2 hcx] at he
  have hlt : i.toNatClampNeg < x_sz k := Nat.not_le.mp fun q => hin (Or.inr q)
  obtain ⟨t0, ty, ht, hty⟩ := x_tyr (cy := cy) hcx (by have := x_kd18 k hk.1; rw [hk.2] at this; exact this)
  refine W.aald (v := .ref (ad r)) (ty := ty) hx hb (hP k _ he) ((hK.2 t0 _ ht).1 (x_sz k) (fun j => va_rf ((x_rf k j).map ad))) hty (fun q => by cases q) (by show ¬ (i < 0 ∨ (arrV _ _ _).slots.size ≤ _); rw [arrV_size]; exact hin) (by show (arrV _ _ _).slots[_]? = _; rw [arrV_read _ _ hlt]; dsimp only; rw [hr]; rfl) rfl rfl hd (kk ls H locs hl hP hS)
theorem wy_abo (E : x_E D cy ad M p s m args c) {idx : Nat} (hw : Cond.fieldLink M.1.cls idx "WakingLayers$Asker" "ABOVE" "[I" ∈ x_ws) (hd : decode M.2.1 pc = .ok (.getstatic idx, 3)) (kk : Wy p l e R s m args below meth c cells slots Qf D cy ad M (pc + 3) L (.ref 900 :: st) μ) : Wy p l e R s m args below meth c cells slots Qf D cy ad M pc L st μ := by
  intro ls H locs hl hP hS
  obtain ⟨hx, hb, hml, hown, hts, hK, hinj, hE⟩ := E
  exact va_gets (ref := "WakingLayers$Asker") hx hb hE.1 hS hown (hts _ hw) (fun x h => h) hd (kk ls H locs hl hP hS)
theorem wy_abolen (E : x_E D cy ad M p s m args c) (hd : decode M.2.1 pc = .ok (.arraylength, 1)) (kk : Wy p l e R s m args below meth c cells slots Qf D cy ad M (pc + 1) L (.int 6 :: st) μ) : Wy p l e R s m args below meth c cells slots Qf D cy ad M pc L (.ref 900 :: st) μ := by
  intro ls H locs hl hP hS
  obtain ⟨hx, hb, hml, hown, hts, hK, hinj, hE⟩ := E
  exact va_tlen hx hb hE.2.1 hS rfl hd (kk ls H locs hl hP hS)
theorem wy_abold (E : x_E D cy ad M p s m args c) {i : Int32} (hin : vp_in i 6) (hd : decode M.2.1 pc = .ok (.iaload, 1)) (kk : Wy p l e R s m args below meth c cells slots Qf D cy ad M (pc + 1) L (.int (x_aboL.getD i.toNatClampNeg 0) :: st) μ) : Wy p l e R s m args below meth c cells slots Qf D cy ad M pc L (.int i :: .ref 900 :: st) μ := by
  intro ls H locs hl hP hS
  obtain ⟨hx, hb, hml, hown, hts, hK, hinj, hE⟩ := E
  exact va_ti hx hb hE.2.1 hS hin rfl hd (kk ls H locs hl hP hS)
/-! calls -/
theorem wy_back (E : x_E D cy ad M p s m args c) {r : Option Value} {μ' : xMu} {rest st0 : List Value} {a : Array Value} {ls : Array Slot} {H : Heap} {locs : List Loc} (hl : x_LR ad ls M.2.2.1 L) (hS : va_S (x_A ad) s.heap H locs)
    (hr : va_Run p l e R s m args below meth c H locs cells slots 0 0 (F0 m pc ls st0) (rest.map (x_cv ad)) (x_Q D cy ad r μ' a) (x_A ad))
    (kk : Wy p l e R s m args below meth c cells slots Qf D cy ad M (pc + 3) L (r.toList ++ rest) μ') : W p l e R s m args below meth c H locs cells slots Qf (F0 m pc ls st0) := by
  intro T hT X
  obtain ⟨v, st₀, t, T', Lc, h0, X', hL, e1, e2, ⟨hv, hP1, hz, hk⟩, go⟩ := hr T hT X
  cases hv
  rw [h0] at hz hk
  have hS' : va_S (x_A ad) s.heap T'.heap (locs ++ Lc) := by
    refine ⟨Nat.le_trans hS.1 (by rw [e1]; exact hz), fun q h1 h2 => ?_, fun q hq => ?_⟩
    · rw [e1, hk q (Nat.lt_of_lt_of_le h1 hS.1) h2]
      exact hS.2.1 q h1 h2
    · rcases List.mem_append.mp hq with h | h
      · exact hS.2.2 q h
      · exact hL q h
  obtain ⟨t2, a1, b1⟩ := kk ls T'.heap (locs ++ Lc) hl (by rw [e1]; exact hP1) hS' T' rfl X'
  refine ⟨t2, go t2 ?_, b1⟩
  have e3 : (r.toList ++ rest).map (x_cv ad) = (r.map (x_cv ad)).toList ++ rest.map (x_cv ad) := by cases r <;> simp
  rw [e3] at a1
  exact a1
theorem x_rest (ad : Nat → Nat) (rest : List Value) : ((rest.map (x_cv ad)).map fun v => v.category).sum = (rest.map fun v => v.category).sum := by
  rw [List.map_map]
  congr 1
  apply List.map_congr_left
  intro v _
  exact x_cv_cat ad v
theorem x_goodM {M' : xM} (h : Cond.code M'.1 M'.2.1 M'.2.2.1 M'.2.2.2 ∈ x_ws) : GoodIn x_ws (x_wsM M') := by
  intro w hw
  rcases List.mem_cons.mp hw with rfl | hw
  · exact ⟨h, good_of_word (List.mem_filter.mp h).2⟩
  · exact ⟨hw, good_of_word (List.mem_filter.mp hw).2⟩
/-- what the tables say of a call of an instance method -/
def x_CV (own : String) (idx : Nat) (M' : xM) (n : Nat) : Prop := Cond.methodLink own idx M'.1 ∈ x_ws ∧ Cond.instanceMethod M'.1 ∈ x_ws ∧ Cond.selects M'.1.cls M'.1 M'.1 ∈ x_ws ∧ (parseMethodDescriptor M'.1.desc).map (fun d => d.parameters.length) = some n ∧ x_ok M'
def x_CS (own : String) (idx : Nat) (M' : xM) (n : Nat) : Prop := Cond.methodLink own idx M'.1 ∈ x_ws ∧ Cond.static M'.1 ∈ x_ws ∧ (parseMethodDescriptor M'.1.desc).map (fun d => d.parameters.length) = some n ∧ x_ok M'
theorem wy_callV (E : x_E D cy ad M p s m args c) {M' : xM} {d idx k ci N n : Nat} {T : u_T} {As rest : List Value} {r : Option Value} {μ' : xMu} (hR : d + 1 ≤ R.frames ∧ 40 * (d + 1) ≤ R.locals) (hcs : cells ≤ R.cells ∧ slots ≤ R.slots)
    (hk : x_is k ci) (hci : ci < 13) (hc : vwCl[ci]? = some (M'.1.cls, T, N)) (C : x_CV M.1.cls idx M' n) (hn : As.length = n) (hrest : (rest.map fun v => v.category).sum ≤ 8) (hst : st = As.reverse ++ .ref k :: rest) (hd : decode M.2.1 pc = .ok (.invokevirtual idx, 3))
    (hM : Met l M'.1 (x_wsM M') (x_rm d) (x_Pc D cy ad (.ref k :: As) μ) (x_Q D cy ad r μ') 0 0 (x_A ad)) (kk : Wy p l e R s m args below meth c cells slots Qf D cy ad M (pc + 3) L (r.toList ++ rest) μ') : Wy p l e R s m args below meth c cells slots Qf D cy ad M pc L st μ := by
  intro ls H locs hl hP hS
  obtain ⟨hx, hb, hml, hown, hts, hK, hinj, hE⟩ := id E
  obtain ⟨hlink, hinst, hsel, hpd, hcode, hpl, hnm, hini, hnL⟩ := C
  have he := x_W_at (cy := cy) (ad := ad) (μ := μ) hk.1
  rw [x_cell_o hk.2 hci] at he
  subst hst
  refine wy_back (r := r) (μ' := μ') E hl hS (va_runV (cc := M.2.1) (nL := M.2.2.1) (As := As.map (x_cv ad)) (n := n) (b := ad k) (C := M'.1.cls) (Ts := x_ws) (own := M.1.cls) ⟨hx, hb, hml, hown, hts⟩ hM
    (⟨callB_of n hts (x_goodM hcode) rfl rfl rfl (hts _ hini) (hts _ hlink) ⟨hnm.1, hnm.2, hpd⟩ ⟨hR.1, by show 8 + (M'.2.2.1 + 11) + 40 * d ≤ R.locals; omega⟩, hts _ hinst, hts _ hsel⟩)
    ⟨x_blind, va_recv hK hP hc he, fun U hU hW => ⟨rfl, by rw [hU]; exact hP, va_K.moved hW.alike hK, hinj, hE.go hS hU hW⟩⟩ rfl (by rw [List.length_map]; exact hn) hl.1 (by simp [x_cv]) (lv_room (by rw [x_rest]; exact hrest)) hd hcs) kk
theorem wy_callS (E : x_E D cy ad M p s m args c) {M' : xM} {d idx n : Nat} {As rest : List Value} {r : Option Value} {μ' : xMu} (hR : d + 1 ≤ R.frames ∧ 40 * (d + 1) ≤ R.locals) (hcs : cells ≤ R.cells ∧ slots ≤ R.slots)
    (C : x_CS M.1.cls idx M' n) (hn : As.length = n) (hrest : (rest.map fun v => v.category).sum ≤ 8) (hst : st = As.reverse ++ rest) (hd : decode M.2.1 pc = .ok (.invokestatic idx, 3))
    (hM : Met l M'.1 (x_wsM M') (x_rm d) (x_Pc D cy ad As μ) (x_Q D cy ad r μ') 0 0 (x_A ad)) (kk : Wy p l e R s m args below meth c cells slots Qf D cy ad M (pc + 3) L (r.toList ++ rest) μ') : Wy p l e R s m args below meth c cells slots Qf D cy ad M pc L st μ := by
  intro ls H locs hl hP hS
  obtain ⟨hx, hb, hml, hown, hts, hK, hinj, hE⟩ := id E
  obtain ⟨hlink, hstat, hpd, hcode, hpl, hnm, hini, hnL⟩ := C
  subst hst
  refine wy_back (r := r) (μ' := μ') E hl hS (va_runS (cc := M.2.1) (nL := M.2.2.1) (As := As.map (x_cv ad)) (n := n) (Ts := x_ws) (own := M.1.cls) ⟨hx, hb, hml, hown, hts⟩ hM
    (⟨callB_of n hts (x_goodM hcode) rfl rfl rfl (hts _ hini) (hts _ hlink) ⟨hnm.1, hnm.2, hpd⟩ ⟨hR.1, by show 8 + (M'.2.2.1 + 11) + 40 * d ≤ R.locals; omega⟩, hts _ hstat⟩)
    ⟨x_blind, fun U hU hW => ⟨rfl, by rw [hU]; exact hP, va_K.moved hW.alike hK, hinj, hE.go hS hU hW⟩⟩ rfl (by rw [List.length_map]; exact hn) hl.1 (by simp) (lv_room (by rw [x_rest]; exact hrest)) hd hcs) kk
end Wy2
end
section
/-! pure programs over the memory, and what a method must do to be one -/
def x_isb (k c : Nat) : Bool := decide (k < x_N) && (x_kd k == c)
def x_inb (i : Int32) (n : Nat) : Bool := !(decide (i < 0)) && decide (i.toNatClampNeg < n)
def x_zok (v : Int32) : Bool := v == 0 || v == 1
def x_cok (v : Int32) : Bool := decide (0 ≤ v) && decide (v ≤ 65535)
def x_chk {α : Type} (k c : Nat) (o : Option α) : Option α := bif x_isb k c then o else none
def x_ald {α : Type} (μ : xMu) (k n : Nat) (i : Int32) (f : Int32 → Option α) : Option α := bif x_inb i n then f (μ k i.toNatClampNeg) else none
def x_ast {α : Type} (μ : xMu) (k n : Nat) (i v : Int32) (f : xMu → Option α) : Option α := bif x_inb i n then f (x_wr μ k i.toNatClampNeg v) else none
def x_put {α : Type} (μ : xMu) (k j : Nat) (v : Int32) (f : xMu → Option α) : Option α := f (x_wr μ k j v)
def x_rld {α : Type} (k n : Nat) (i : Int32) (f : Nat → Option α) : Option α := bif x_inb i n then (match x_rf k i.toNatClampNeg with
  | some r => f r
  | none => none) else none
def x_rfd {α : Type} (k j : Nat) (f : Nat → Option α) : Option α := match x_rf k j with
  | some r => f r
  | none => none
def x_tst {α : Type} (b : Bool) (o : Option α) : Option α := bif b then o else none
def x_abo {α : Type} (i : Int32) (f : Int32 → Option α) : Option α := bif x_inb i 6 then f (x_aboL.getD i.toNatClampNeg 0) else none
def x_sw {α : Type} (x lo : Int32) : List (Option α) → Option α → Option α
  | [], d => d
  | a :: r, d => if x = lo then a else x_sw x (lo + 1) r d
theorem x_is_of {k c : Nat} (h : x_isb k c = true) : x_is k c := by
  simp only [x_isb, Bool.and_eq_true, decide_eq_true_eq, beq_iff_eq] at h
  exact h
theorem x_in_of {i : Int32} {n : Nat} (h : x_inb i n = true) : vp_in i n := by
  simp only [x_inb, Bool.and_eq_true, decide_eq_true_eq, Bool.not_eq_true', decide_eq_false_iff_not] at h
  rintro (q | q)
  · exact h.1 q
  · omega
theorem x_zn {v : Int32} (h : x_zok v = true) : narrow .boolean (.int v) = .int v ∧ fits .boolean (.int v) = true := by
  simp only [x_zok, Bool.or_eq_true, beq_iff_eq] at h
  rcases h with rfl | rfl <;> exact ⟨by decide, by decide⟩
theorem x_zv {v : Int32} (h : x_zok v = true) : vp_nar .boolean v = v := by
  simp only [x_zok, Bool.or_eq_true, beq_iff_eq] at h
  rcases h with rfl | rfl <;> decide
theorem x_cn {v : Int32} (h : x_cok v = true) : narrow .char (.int v) = .int v ∧ fits .char (.int v) = true := by
  simp only [x_cok, Bool.and_eq_true, decide_eq_true_eq] at h
  obtain ⟨j, hj, rfl⟩ := nI_of2 (M := 65535) (n := 65535) (by decide) (x := v) (by
    intro q
    have := h.1
    simp only [Int32.lt_iff_toInt_lt, Int32.le_iff_toInt_le] at q this
    have z : (0 : Int32).toInt = 0 := by decide
    omega) h.2
  exact pk_charN (by omega)
def x_wi (μ : xMu) (r : Int32) : Option Value × xMu := (some (.int r), μ)
def x_wl (μ : xMu) (r : Int64) : Option Value × xMu := (some (.long r), μ)
def x_wr1 (μ : xMu) (r : Nat) : Option Value × xMu := (some (.ref r), μ)
def x_wim (q : Int32 × xMu) : Option Value × xMu := (some (.int q.1), q.2)
def x_wrm (q : Nat × xMu) : Option Value × xMu := (some (.ref q.1), q.2)
def x_wv (μ : xMu) : Option Value × xMu := (none, μ)
def x_wu (μ : xMu) (_ : Unit) : Option Value × xMu := (none, μ)
abbrev xG : Type := Launch × va_G × (Nat → ClassId) × (Nat → Nat)
def Mx (G : xG) (M : xM) (d : Nat) (as : List Value) (μ : xMu) {α : Type} (w : α → Option Value × xMu) (o : Option α) : Prop :=
  ∀ a, o = some a → Met G.1 M.1 (x_wsM M) (x_rm d) (x_Pc G.2.1 G.2.2.1 G.2.2.2 as μ) (x_Q G.2.1 G.2.2.1 G.2.2.2 (w a).1 (w a).2) 0 0 (x_A G.2.2.2)
def Wx (G : xG) (M : xM) (d pc : Nat) (L : List (Option Value)) (st : List Value) (μ : xMu) {α : Type} (w : α → Option Value × xMu) (o : Option α) : Prop :=
  ∀ a, o = some a → ∀ (p : Program) (e : Env) (s : State) (m : MethodId) (args : Array Value) (below : List Frame) (meth : Method) (c : Code), x_E G.2.1 G.2.2.1 G.2.2.2 M p s m args c → meth.sig.returnType = M.2.2.2 → meth.locks = false →
    Wy p G.1 e (x_rm d) s m args below meth c 0 0 (MQ below (x_Q G.2.1 G.2.2.1 G.2.2.2 (w a).1 (w a).2) args s 0 0 (x_A G.2.2.2)) G.2.1 G.2.2.1 G.2.2.2 M pc L st μ
/-! the entry -/
def x_entl (as : List Value) : List (Option Value) := as.flatMap fun v => if v.category = 2 then [some v, none] else [some v]
def x_ent (as : List Value) (n : Nat) : List (Option Value) := x_entl as ++ List.replicate (n - (x_entl as).length) none
theorem x_entl_len (ad : Nat → Nat) (as : List Value) : (x_entl as).length = (lg_sl (as.map (x_cv ad))).length := by
  induction as with
  | nil => rfl
  | cons v r ih =>
    simp only [x_entl, lg_sl, List.flatMap_cons, List.map_cons, List.length_append, x_cv_cat] at ih ⊢
    rw [ih]
    congr 1
    split <;> rfl
theorem x_entl_at (ad : Nat → Nat) (as : List Value) : ∀ (i : Nat) (v : Value), (x_entl as)[i]? = some (some v) → (lg_sl (as.map (x_cv ad)))[i]? = some (.val (x_cv ad v)) := by
  induction as with
  | nil => intro i v h; simp [x_entl] at h
  | cons u r ih =>
    intro i v h
    simp only [x_entl, lg_sl, List.flatMap_cons, List.map_cons, x_cv_cat] at ih h ⊢
    by_cases hc : u.category = 2
    · simp only [hc, if_true] at h ⊢
      match i, h with
      | 0, h => simp at h; subst h; rfl
      | 1, h => simp at h
      | i + 2, h => exact ih i v (by simpa using h)
    · simp only [hc, if_false] at h ⊢
      match i, h with
      | 0, h => simp at h; subst h; rfl
      | i + 1, h => exact ih i v (by simpa using h)
theorem mx_enter {G : xG} {M : xM} {d : Nat} {as : List Value} {μ : xMu} {α : Type} {w : α → Option Value × xMu} {o : Option α} (ok : x_ok M) (L : List (Option Value)) (hL : x_ent as M.2.2.1 = L) (hn : (x_entl as).length ≤ M.2.2.1) (k : Wx G M d 0 L [] μ w o) : Mx G M d as μ w o := by
  intro a ho
  obtain ⟨hcode, hpl, -, -, -⟩ := ok
  refine Met.ofW (cc := M.2.1) (maxL := M.2.2.1) (ret := M.2.2.2) hpl rfl ?_
  intro p e s m args below meth c s₁ B hml hv
  obtain ⟨rfl, hP, hK, hinj, hE⟩ := hv
  have hts0 := atoms_spec (ws := x_wsM M) B.pre
  have hlen : (lg_sl (as.map (x_cv G.2.2.2))).length ≤ M.2.2.1 := by rw [← x_entl_len]; exact hn
  have hl := lv_entry (as.map (x_cv G.2.2.2)) (n := M.2.2.1) hlen
  rw [lg_entry_eq]
  have hl2 : x_LR G.2.2.2 (lg_sl (as.map (x_cv G.2.2.2)) ++ List.replicate (M.2.2.1 - (lg_sl (as.map (x_cv G.2.2.2))).length) Slot.unset).toArray M.2.2.1 L := by
    subst hL
    refine ⟨hl.1, by simp only [x_ent, List.length_append, List.length_replicate]; omega, hl.2.1, fun i v hi => ?_⟩
    unfold x_ent at hi
    rw [List.getElem?_append] at hi
    split at hi
    · next hlt =>
      rw [List.getElem?_toArray, List.getElem?_append_left (by rw [← x_entl_len]; exact hlt)]
      exact x_entl_at _ _ i v hi
    · rw [List.getElem?_replicate] at hi
      split at hi <;> cases hi
  have h := k a ho p e s m _ below meth c ⟨B.exec, B.bytes, hml, findClass_of_methodNamed B.named, fun w h => hts0 w (List.mem_cons_of_mem _ h), hK, hinj, hE⟩ B.returns B.notSynchronized
  exact h _ s.heap [] hl2 hP va_S.rf
section WX
variable {G : xG} {M : xM} {d pc : Nat} {L : List (Option Value)} {st : List Value} {μ : xMu} {α : Type} {w : α → Option Value × xMu} {o o2 : Option α}
theorem wx_none : Wx G M d pc L st μ w none := fun a ho => by cases ho
theorem wx_blk (is : List Instr) {pc' : Nat} {L' : List (Option Value)} {st' : List Value} (h1 : x_dec M.2.1 pc is = true) (h2 : x_evs is L st = some (L', st')) (h3 : pc + x_szs is = pc') (k : Wx G M d pc' L' st' μ w o) : Wx G M d pc L st μ w o :=
  fun a ho p e s m args below meth c E hr hk => wy_blk E is h1 h2 h3 (k a ho p e s m args below meth c E hr hk)
/-- fewer locals are known -/
def x_sub : List (Option Value) → List (Option Value) → Prop
  | [], [] => True
  | none :: a, _ :: b => x_sub a b
  | some v :: a, some u :: b => v = u ∧ x_sub a b
  | _, _ => False
theorem x_sub_at : ∀ {a b : List (Option Value)}, x_sub a b → a.length = b.length ∧ ∀ (i : Nat) (v : Value), a[i]? = some (some v) → b[i]? = some (some v)
  | [], [], _ => ⟨rfl, fun i v h => by simp at h⟩
  | none :: a, _ :: b, h => by
    obtain ⟨h1, h2⟩ := x_sub_at (a := a) (b := b) h
    refine ⟨by simp [h1], fun i v hi => ?_⟩
    match i, hi with
    | 0, hi => simp at hi
    | i + 1, hi => exact h2 i v (by simpa using hi)
  | some v :: a, some u :: b, h => by
    obtain ⟨rfl, h⟩ := h
    obtain ⟨h1, h2⟩ := x_sub_at (a := a) (b := b) h
    refine ⟨by simp [h1], fun i v hi => ?_⟩
    match i, hi with
    | 0, hi => simpa using hi
    | i + 1, hi => exact h2 i v (by simpa using hi)
theorem wx_weak {L' : List (Option Value)} (h : x_sub L' L) (k : Wx G M d pc L' st μ w o) : Wx G M d pc L st μ w o :=
  fun a ho p e s m args below meth c E hr hk ls H locs hl hP hS => k a ho p e s m args below meth c E hr hk ls H locs ⟨hl.1, (x_sub_at h).1.trans hl.2.1, hl.2.2.1, fun i v hi => hl.2.2.2 i v ((x_sub_at h).2 i v hi)⟩ hP hS
theorem wx_goto (tgt : Nat) {off : Int} (hd : decode M.2.1 pc = .ok (.goto off, 3)) (ht : (pc : Int) + off = (tgt : Int)) (k : Wx G M d tgt L st μ w o) : Wx G M d pc L st μ w o :=
  fun a ho p e s m args below meth c E hr hk => wy_goto E hd ht (k a ho p e s m args below meth c E hr hk)
theorem x_ifp {c : Prop} [Decidable c] {o o2 : Option α} {a : α} (h : (if c then o else o2) = some a) (hc : c) : o = some a := by rwa [if_pos hc] at h
theorem x_ifn {c : Prop} [Decidable c] {o o2 : Option α} {a : α} (h : (if c then o else o2) = some a) (hc : ¬ c) : o2 = some a := by rwa [if_neg hc] at h
theorem wx_if_eq (tgt : Nat) {x : Int32} {off : Int} (hd : decode M.2.1 pc = .ok (.ifCond .eq off, 3)) (ht : (pc : Int) + off = (tgt : Int)) (kt : Wx G M d tgt L st μ w o) (kf : Wx G M d (pc + 3) L st μ w o2) : Wx G M d pc L (.int x :: st) μ w (if x = 0 then o else o2) :=
  fun a ho p e s m args below meth c E hr hk => wy_if_eq E hd ht (fun h => kt a (x_ifp ho h) p e s m args below meth c E hr hk) (fun h => kf a (x_ifn ho h) p e s m args below meth c E hr hk)
theorem wx_if_ne (tgt : Nat) {x : Int32} {off : Int} (hd : decode M.2.1 pc = .ok (.ifCond .ne off, 3)) (ht : (pc : Int) + off = (tgt : Int)) (kt : Wx G M d tgt L st μ w o2) (kf : Wx G M d (pc + 3) L st μ w o) : Wx G M d pc L (.int x :: st) μ w (if x = 0 then o else o2) :=
  fun a ho p e s m args below meth c E hr hk => wy_if_ne E hd ht (fun h => kt a (x_ifn ho h) p e s m args below meth c E hr hk) (fun h => kf a (x_ifp ho h) p e s m args below meth c E hr hk)
theorem wx_if_lt (tgt : Nat) {x : Int32} {off : Int} (hd : decode M.2.1 pc = .ok (.ifCond .lt off, 3)) (ht : (pc : Int) + off = (tgt : Int)) (kt : Wx G M d tgt L st μ w o) (kf : Wx G M d (pc + 3) L st μ w o2) : Wx G M d pc L (.int x :: st) μ w (if x < 0 then o else o2) :=
  fun a ho p e s m args below meth c E hr hk => wy_if_lt E hd ht (fun h => kt a (x_ifp ho h) p e s m args below meth c E hr hk) (fun h => kf a (x_ifn ho h) p e s m args below meth c E hr hk)
theorem wx_if_ge (tgt : Nat) {x : Int32} {off : Int} (hd : decode M.2.1 pc = .ok (.ifCond .ge off, 3)) (ht : (pc : Int) + off = (tgt : Int)) (kt : Wx G M d tgt L st μ w o) (kf : Wx G M d (pc + 3) L st μ w o2) : Wx G M d pc L (.int x :: st) μ w (if 0 ≤ x then o else o2) :=
  fun a ho p e s m args below meth c E hr hk => wy_if_ge E hd ht (fun h => kt a (x_ifp ho h) p e s m args below meth c E hr hk) (fun h => kf a (x_ifn ho h) p e s m args below meth c E hr hk)
theorem wx_if_gt (tgt : Nat) {x : Int32} {off : Int} (hd : decode M.2.1 pc = .ok (.ifCond .gt off, 3)) (ht : (pc : Int) + off = (tgt : Int)) (kt : Wx G M d tgt L st μ w o) (kf : Wx G M d (pc + 3) L st μ w o2) : Wx G M d pc L (.int x :: st) μ w (if 0 < x then o else o2) :=
  fun a ho p e s m args below meth c E hr hk => wy_if_gt E hd ht (fun h => kt a (x_ifp ho h) p e s m args below meth c E hr hk) (fun h => kf a (x_ifn ho h) p e s m args below meth c E hr hk)
theorem wx_if_le (tgt : Nat) {x : Int32} {off : Int} (hd : decode M.2.1 pc = .ok (.ifCond .le off, 3)) (ht : (pc : Int) + off = (tgt : Int)) (kt : Wx G M d tgt L st μ w o) (kf : Wx G M d (pc + 3) L st μ w o2) : Wx G M d pc L (.int x :: st) μ w (if x ≤ 0 then o else o2) :=
  fun a ho p e s m args below meth c E hr hk => wy_if_le E hd ht (fun h => kt a (x_ifp ho h) p e s m args below meth c E hr hk) (fun h => kf a (x_ifn ho h) p e s m args below meth c E hr hk)
theorem wx_ic_eq (tgt : Nat) {x y : Int32} {off : Int} (hd : decode M.2.1 pc = .ok (.if_icmp .eq off, 3)) (ht : (pc : Int) + off = (tgt : Int)) (kt : Wx G M d tgt L st μ w o) (kf : Wx G M d (pc + 3) L st μ w o2) : Wx G M d pc L (.int y :: .int x :: st) μ w (if x = y then o else o2) :=
  fun a ho p e s m args below meth c E hr hk => wy_ic_eq E hd ht (fun h => kt a (x_ifp ho h) p e s m args below meth c E hr hk) (fun h => kf a (x_ifn ho h) p e s m args below meth c E hr hk)
theorem wx_ic_ne (tgt : Nat) {x y : Int32} {off : Int} (hd : decode M.2.1 pc = .ok (.if_icmp .ne off, 3)) (ht : (pc : Int) + off = (tgt : Int)) (kt : Wx G M d tgt L st μ w o2) (kf : Wx G M d (pc + 3) L st μ w o) : Wx G M d pc L (.int y :: .int x :: st) μ w (if x = y then o else o2) :=
  fun a ho p e s m args below meth c E hr hk => wy_ic_ne E hd ht (fun h => kt a (x_ifn ho h) p e s m args below meth c E hr hk) (fun h => kf a (x_ifp ho h) p e s m args below meth c E hr hk)
theorem wx_ic_lt (tgt : Nat) {x y : Int32} {off : Int} (hd : decode M.2.1 pc = .ok (.if_icmp .lt off, 3)) (ht : (pc : Int) + off = (tgt : Int)) (kt : Wx G M d tgt L st μ w o) (kf : Wx G M d (pc + 3) L st μ w o2) : Wx G M d pc L (.int y :: .int x :: st) μ w (if x < y then o else o2) :=
  fun a ho p e s m args below meth c E hr hk => wy_ic_lt E hd ht (fun h => kt a (x_ifp ho h) p e s m args below meth c E hr hk) (fun h => kf a (x_ifn ho h) p e s m args below meth c E hr hk)
theorem wx_ic_ge (tgt : Nat) {x y : Int32} {off : Int} (hd : decode M.2.1 pc = .ok (.if_icmp .ge off, 3)) (ht : (pc : Int) + off = (tgt : Int)) (kt : Wx G M d tgt L st μ w o) (kf : Wx G M d (pc + 3) L st μ w o2) : Wx G M d pc L (.int y :: .int x :: st) μ w (if y ≤ x then o else o2) :=
  fun a ho p e s m args below meth c E hr hk => wy_ic_ge E hd ht (fun h => kt a (x_ifp ho h) p e s m args below meth c E hr hk) (fun h => kf a (x_ifn ho h) p e s m args below meth c E hr hk)
theorem wx_ic_gt (tgt : Nat) {x y : Int32} {off : Int} (hd : decode M.2.1 pc = .ok (.if_icmp .gt off, 3)) (ht : (pc : Int) + off = (tgt : Int)) (kt : Wx G M d tgt L st μ w o) (kf : Wx G M d (pc + 3) L st μ w o2) : Wx G M d pc L (.int y :: .int x :: st) μ w (if y < x then o else o2) :=
  fun a ho p e s m args below meth c E hr hk => wy_ic_gt E hd ht (fun h => kt a (x_ifp ho h) p e s m args below meth c E hr hk) (fun h => kf a (x_ifn ho h) p e s m args below meth c E hr hk)
theorem wx_ic_le (tgt : Nat) {x y : Int32} {off : Int} (hd : decode M.2.1 pc = .ok (.if_icmp .le off, 3)) (ht : (pc : Int) + off = (tgt : Int)) (kt : Wx G M d tgt L st μ w o) (kf : Wx G M d (pc + 3) L st μ w o2) : Wx G M d pc L (.int y :: .int x :: st) μ w (if x ≤ y then o else o2) :=
  fun a ho p e s m args below meth c E hr hk => wy_ic_le E hd ht (fun h => kt a (x_ifp ho h) p e s m args below meth c E hr hk) (fun h => kf a (x_ifn ho h) p e s m args below meth c E hr hk)
theorem x_bt {b : Bool} {a : α} (h : (bif b then o else none) = some a) : b = true ∧ o = some a := by
  cases b
  · cases h
  · exact ⟨rfl, h⟩
theorem wx_chk {k c : Nat} (h : x_is k c → Wx G M d pc L st μ w o) : Wx G M d pc L st μ w (x_chk k c o) :=
  fun a ho => h (x_is_of (x_bt ho).1) a (x_bt ho).2
theorem wx_tst {b : Bool} (h : b = true → Wx G M d pc L st μ w o) : Wx G M d pc L st μ w (x_tst b o) :=
  fun a ho => h (x_bt ho).1 a (x_bt ho).2
theorem x_nz {y : Int32} (h : (!(y == 0)) = true) : ¬ y = 0 := by
  intro q
  subst q
  cases h
theorem wx_idiv {x y : Int32} (hd : decode M.2.1 pc = .ok (.idiv, 1)) (hy : ¬ y = 0) (k : Wx G M d (pc + 1) L (.int (x / y) :: st) μ w o) : Wx G M d pc L (.int y :: .int x :: st) μ w o :=
  fun a ho p e s m args below meth c E hr hk => wy_idiv E hd hy (k a ho p e s m args below meth c E hr hk)
theorem wx_irem {x y : Int32} (hd : decode M.2.1 pc = .ok (.irem, 1)) (hy : ¬ y = 0) (k : Wx G M d (pc + 1) L (.int (x - x / y * y) :: st) μ w o) : Wx G M d pc L (.int y :: .int x :: st) μ w o :=
  fun a ho p e s m args below meth c E hr hk => wy_irem E hd hy (k a ho p e s m args below meth c E hr hk)
theorem wx_ldc {idx : Nat} {v : Int32} (hw : Cond.constant M.1.cls idx v ∈ x_ws) (hd : decode M.2.1 pc = .ok (.ldc idx, 2)) (k : Wx G M d (pc + 2) L (.int v :: st) μ w o) : Wx G M d pc L st μ w o :=
  fun a ho p e s m args below meth c E hr hk => wy_ldc E hw hd (k a ho p e s m args below meth c E hr hk)
theorem wx_ldc2 {idx : Nat} {v : Int64} (hw : Cond.constantLong M.1.cls idx v ∈ x_ws) (hd : decode M.2.1 pc = .ok (.ldc2_w idx, 3)) (k : Wx G M d (pc + 3) L (.long v :: st) μ w o) : Wx G M d pc L st μ w o :=
  fun a ho p e s m args below meth c E hr hk => wy_ldc2 E hw hd (k a ho p e s m args below meth c E hr hk)
theorem wx_ldcs (i : Nat) (hi : i < 8) (ho1 : M.1.cls = "WakingLayers$Reader") (hd : decode M.2.1 pc = .ok (.ldc (x_txI.getD i 0), 2)) (k : Wx G M d (pc + 2) L (.ref (910 + i) :: st) μ w o) : Wx G M d pc L st μ w o :=
  fun a ho p e s m args below meth c E hr hk => wy_ldcs E hi ho1 hd (k a ho p e s m args below meth c E hr hk)
theorem x_fv_i {μ : xMu} {k c j : Nat} (h : x_is k c) (hf : x_fr c j = false) : x_fv μ k j = .int (μ k j) := by
  simp [x_fv, h.2, hf]
theorem x_fv_r {μ : xMu} {k c j r : Nat} (h : x_is k c) (hf : x_fr c j = true) (hr : x_rf k j = some r) : x_fv μ k j = .ref r := by
  simp [x_fv, h.2, hf, hr, va_rf]
theorem wx_geti {k idx ci j N : Nat} {C : String} {T : u_T} (hk : x_is k ci) (F : x_FF M.1.cls idx ci j C T N) (hf : x_fr ci j = false) (hd : decode M.2.1 pc = .ok (.getfield idx, 3)) (kk : Wx G M d (pc + 3) L (.int (μ k j) :: st) μ w o) : Wx G M d pc L (.ref k :: st) μ w o :=
  fun a ho p e s m args below meth c E hr hq => wy_get E hk F hd (by rw [x_fv_i hk hf]; exact kk a ho p e s m args below meth c E hr hq)
theorem wx_getr {k idx ci j N r : Nat} {C : String} {T : u_T} (hk : x_is k ci) (F : x_FF M.1.cls idx ci j C T N) (hf : x_fr ci j = true) (hr1 : x_rf k j = some r) (hd : decode M.2.1 pc = .ok (.getfield idx, 3)) (kk : Wx G M d (pc + 3) L (.ref r :: st) μ w o) : Wx G M d pc L (.ref k :: st) μ w o :=
  fun a ho p e s m args below meth c E hr hq => wy_get E hk F hd (by rw [x_fv_r hk hf hr1]; exact kk a ho p e s m args below meth c E hr hq)
theorem wx_rfd {k idx ci j N : Nat} {C : String} {T : u_T} {f : Nat → Option α} (hk : x_is k ci) (F : x_FF M.1.cls idx ci j C T N) (hf : x_fr ci j = true) (hd : decode M.2.1 pc = .ok (.getfield idx, 3)) (kk : ∀ r, Wx G M d (pc + 3) L (.ref r :: st) μ w (f r)) : Wx G M d pc L (.ref k :: st) μ w (x_rfd k j f) := by
  intro a ho
  unfold x_rfd at ho
  split at ho
  · next r hr1 => exact wx_getr hk F hf hr1 hd (kk r) a ho
  · cases ho
theorem wx_put {k idx ci j N : Nat} {C : String} {T : u_T} {ty0 : Nat → FieldType} {ty : FieldType} {v : Int32} {f : xMu → Option α} (hk : x_is k ci) (F : x_FF M.1.cls idx ci j C T N) (P : x_FP ci j T N ty0 ty) (hn : narrow ty (.int v) = .int v ∧ fits ty (.int v) = true) (hd : decode M.2.1 pc = .ok (.putfield idx, 3)) (kk : ∀ μ1, Wx G M d (pc + 3) L st μ1 w (f μ1)) : Wx G M d pc L (.int v :: .ref k :: st) μ w (x_put μ k j v f) :=
  fun a ho p e s m args below meth c E hr hq => wy_put E hk F P hn.1 hn.2 hd (kk (x_wr μ k j v) a ho p e s m args below meth c E hr hq)
theorem wx_ald {k n : Nat} {i : Int32} {f : Int32 → Option α} (hk : x_is k 13) (hn : x_sz k = n) (hd : decode M.2.1 pc = .ok (.iaload, 1)) (kk : ∀ v, Wx G M d (pc + 1) L (.int v :: st) μ w (f v)) : Wx G M d pc L (.int i :: .ref k :: st) μ w (x_ald μ k n i f) :=
  fun a ho p e s m args below meth c E hr hq => wy_iald E hk (by rw [hn]; exact x_in_of (x_bt ho).1) hd (kk _ a (x_bt ho).2 p e s m args below meth c E hr hq)
theorem wx_zald {k n : Nat} {i : Int32} {f : Int32 → Option α} (hk : x_is k 14) (hn : x_sz k = n) (hd : decode M.2.1 pc = .ok (.baload, 1)) (kk : ∀ v, Wx G M d (pc + 1) L (.int v :: st) μ w (f v)) : Wx G M d pc L (.int i :: .ref k :: st) μ w (x_ald μ k n i f) :=
  fun a ho p e s m args below meth c E hr hq => wy_zald E hk (by rw [hn]; exact x_in_of (x_bt ho).1) hd (kk _ a (x_bt ho).2 p e s m args below meth c E hr hq)
theorem wx_ast {k n : Nat} {i v : Int32} {f : xMu → Option α} (hk : x_is k 13) (hn : x_sz k = n) (hd : decode M.2.1 pc = .ok (.iastore, 1)) (kk : ∀ μ1, Wx G M d (pc + 1) L st μ1 w (f μ1)) : Wx G M d pc L (.int v :: .int i :: .ref k :: st) μ w (x_ast μ k n i v f) :=
  fun a ho p e s m args below meth c E hr hq => wy_iast E hk (by rw [hn]; exact x_in_of (x_bt ho).1) hd (kk _ a (x_bt ho).2 p e s m args below meth c E hr hq)
theorem wx_zast {k n : Nat} {i v : Int32} {f : xMu → Option α} (hk : x_is k 14) (hn : x_sz k = n) (hz : x_zok v = true) (hd : decode M.2.1 pc = .ok (.bastore, 1)) (kk : ∀ μ1, Wx G M d (pc + 1) L st μ1 w (f μ1)) : Wx G M d pc L (.int v :: .int i :: .ref k :: st) μ w (x_ast μ k n i v f) :=
  fun a ho p e s m args below meth c E hr hq => wy_zast E hk (by rw [hn]; exact x_in_of (x_bt ho).1) hd (by rw [x_zv hz]; exact kk _ a (x_bt ho).2 p e s m args below meth c E hr hq)
theorem wx_rld {k n cx : Nat} {i : Int32} {f : Nat → Option α} (hk : x_is k cx) (hcx : ¬ cx < 15) (hn : x_sz k = n) (hd : decode M.2.1 pc = .ok (.aaload, 1)) (kk : ∀ r, Wx G M d (pc + 1) L (.ref r :: st) μ w (f r)) : Wx G M d pc L (.int i :: .ref k :: st) μ w (x_rld k n i f) := by
  intro a ho
  obtain ⟨h1, h2⟩ := x_bt ho
  split at h2
  · next r hr1 => exact fun p e s m args below meth c E hr hq => wy_aald E hk hcx (by rw [hn]; exact x_in_of h1) hr1 hd (kk r a h2 p e s m args below meth c E hr hq)
  · cases h2
theorem wx_abo {idx : Nat} (hw : Cond.fieldLink M.1.cls idx "WakingLayers$Asker" "ABOVE" "[I" ∈ x_ws) (hd : decode M.2.1 pc = .ok (.getstatic idx, 3)) (kk : Wx G M d (pc + 3) L (.ref 900 :: st) μ w o) : Wx G M d pc L st μ w o :=
  fun a ho p e s m args below meth c E hr hq => wy_abo E hw hd (kk a ho p e s m args below meth c E hr hq)
theorem wx_abolen (hd : decode M.2.1 pc = .ok (.arraylength, 1)) (kk : Wx G M d (pc + 1) L (.int 6 :: st) μ w o) : Wx G M d pc L (.ref 900 :: st) μ w o :=
  fun a ho p e s m args below meth c E hr hq => wy_abolen E hd (kk a ho p e s m args below meth c E hr hq)
theorem wx_abold {i : Int32} {f : Int32 → Option α} (hd : decode M.2.1 pc = .ok (.iaload, 1)) (kk : ∀ v, Wx G M d (pc + 1) L (.int v :: st) μ w (f v)) : Wx G M d pc L (.int i :: .ref 900 :: st) μ w (x_abo i f) :=
  fun a ho p e s m args below meth c E hr hq => wy_abold E (x_in_of (x_bt ho).1) hd (kk _ a (x_bt ho).2 p e s m args below meth c E hr hq)
/-! ends -/
theorem wx_iret {a0 : α} {v : Int32} (hw : w a0 = (some (.int v), μ)) (hM : M.2.2.2 = some .int) (hd : decode M.2.1 pc = .ok (.ireturn, 1)) : Wx G M d pc L [.int v] μ w (some a0) := by
  intro a ho p e s m args below meth c E hr hk ls H locs hl hP hS
  cases ho
  rw [hw]
  exact W.iret E.1 E.2.1 (hr.trans hM) (fun t ht hW => ⟨rfl, by rw [ht]; exact hP, hS.F ht⟩) hS.2.2 hd hk
theorem wx_zret {a0 : α} {v : Int32} (hw : w a0 = (some (.int v), μ)) (hM : M.2.2.2 = some .boolean) (hz : x_zok v = true) (hd : decode M.2.1 pc = .ok (.ireturn, 1)) : Wx G M d pc L [.int v] μ w (some a0) := by
  intro a ho p e s m args below meth c E hr hk ls H locs hl hP hS
  cases ho
  rw [hw]
  exact W.zret E.1 E.2.1 (hr.trans hM) (x_zn hz).1 (fun t ht hW => ⟨rfl, by rw [ht]; exact hP, hS.F ht⟩) hS.2.2 hd hk
theorem wx_vret {a0 : α} (hw : w a0 = (none, μ)) (hM : M.2.2.2 = none) (hd : decode M.2.1 pc = .ok (.return_, 1)) : Wx G M d pc L [] μ w (some a0) := by
  intro a ho p e s m args below meth c E hr hk ls H locs hl hP hS
  cases ho
  rw [hw]
  exact W.vret E.1 E.2.1 (hr.trans hM) (fun t ht hW => ⟨rfl, by rw [ht]; exact hP, hS.F ht⟩) hS.2.2 hd hk
theorem wx_lret {a0 : α} {v : Int64} (hw : w a0 = (some (.long v), μ)) (hM : M.2.2.2 = some .long) (hd : decode M.2.1 pc = .ok (.lreturn, 1)) : Wx G M d pc L [.long v] μ w (some a0) := by
  intro a ho p e s m args below meth c E hr hk ls H locs hl hP hS
  cases ho
  rw [hw]
  exact W.lret E.1 E.2.1 (hr.trans hM) (fun t ht hW => ⟨rfl, by rw [ht]; exact hP, hS.F ht⟩) hS.2.2 hd hk
theorem wx_aret {a0 : α} {v : Nat} {ty : FieldType} (hw : w a0 = (some (.ref v), μ)) (hM : M.2.2.2 = some (.array ty)) (hd : decode M.2.1 pc = .ok (.areturn, 1)) : Wx G M d pc L [.ref v] μ w (some a0) := by
  intro a ho p e s m args below meth c E hr hk ls H locs hl hP hS
  cases ho
  rw [hw]
  exact W.aret E.1 E.2.1 (hr.trans hM) (Or.inr ⟨_, rfl⟩) (Or.inr ⟨_, rfl⟩) (fun t ht hW => ⟨rfl, by rw [ht]; exact hP, hS.F ht⟩) hS.2.2 hd hk
/-! calls -/
theorem wx_callV {β : Type} {w1 : β → Option Value × xMu} {o1 : Option β} {f : β → Option α} {M' : xM} {d1 idx k ci N n : Nat} {T : u_T} {As rest : List Value} (hd1 : d1 < d) (hk : x_is k ci) (hci : ci < 13) (hc : vwCl[ci]? = some (M'.1.cls, T, N)) (C : x_CV M.1.cls idx M' n) (hn : As.length = n) (hrest : (rest.map fun v => v.category).sum ≤ 8)
    (hM : Mx G M' d1 (.ref k :: As) μ w1 o1) (hst : st = As.reverse ++ .ref k :: rest) (hd : decode M.2.1 pc = .ok (.invokevirtual idx, 3)) (kk : ∀ b, Wx G M d (pc + 3) L ((w1 b).1.toList ++ rest) (w1 b).2 w (f b)) : Wx G M d pc L st μ w (o1.bind f) := by
  intro a ho p e s m args below meth c E hr hq
  obtain ⟨b, hb, hf⟩ := Option.bind_eq_some_iff.mp ho
  exact wy_callV E (d := d1) ⟨hd1, by show 40 * (d1 + 1) ≤ 40 * d; omega⟩ ⟨Nat.le_refl 0, Nat.le_refl 0⟩ hk hci hc C hn hrest hst hd (hM b hb) (kk b a hf p e s m args below meth c E hr hq)
theorem wx_callS {β : Type} {w1 : β → Option Value × xMu} {o1 : Option β} {f : β → Option α} {M' : xM} {d1 idx n : Nat} {As rest : List Value} (hd1 : d1 < d) (C : x_CS M.1.cls idx M' n) (hn : As.length = n) (hrest : (rest.map fun v => v.category).sum ≤ 8)
    (hM : Mx G M' d1 As μ w1 o1) (hst : st = As.reverse ++ rest) (hd : decode M.2.1 pc = .ok (.invokestatic idx, 3)) (kk : ∀ b, Wx G M d (pc + 3) L ((w1 b).1.toList ++ rest) (w1 b).2 w (f b)) : Wx G M d pc L st μ w (o1.bind f) := by
  intro a ho p e s m args below meth c E hr hq
  obtain ⟨b, hb, hf⟩ := Option.bind_eq_some_iff.mp ho
  exact wy_callS E (d := d1) ⟨hd1, by show 40 * (d1 + 1) ≤ 40 * d; omega⟩ ⟨Nat.le_refl 0, Nat.le_refl 0⟩ C hn hrest hst hd (hM b hb) (kk b a hf p e s m args below meth c E hr hq)
/-! switches -/
def x_F2 (P : Nat → Option α → Prop) : List Nat → List (Option α) → Prop
  | [], [] => True
  | t :: ts, q :: qs => P t q ∧ x_F2 P ts qs
  | _, _ => False
theorem x_sw_at {P : Nat → Option α → Prop} {x : Int32} {dd : Option α} {a : α} : ∀ {tg : List Nat} {cs : List (Option α)} {lo : Int32} {b : Nat}, x_F2 P tg cs → lo = nI b → b + tg.length < 2 ^ 31 → x_sw x lo cs dd = some a → (∃ (j t : Nat) (q : Option α), tg[j]? = some t ∧ x = nI (b + j) ∧ P t q ∧ q = some a) ∨ ((∀ j, j < tg.length → ¬ x = nI (b + j)) ∧ dd = some a)
  | [], [], lo, b, _, _, _, h => Or.inr ⟨fun j hj => absurd hj (Nat.not_lt_zero j), h⟩
  | t :: ts, q :: qs, lo, b, hF, hlo, hb, h => by
    unfold x_sw at h
    split at h
    · next hx => exact Or.inl ⟨0, t, q, rfl, by rw [hx, hlo]; rfl, hF.1, h⟩
    · next hx =>
      rcases x_sw_at (b := b + 1) hF.2 (by rw [hlo]; exact nI_1 b) (by simp at hb; omega) h with ⟨j, t', q', h1, h2, h3, h4⟩ | ⟨h1, h2⟩
      · exact Or.inl ⟨j + 1, t', q', by simpa using h1, by rw [h2]; congr 1; omega, h3, h4⟩
      · refine Or.inr ⟨fun j hj => ?_, h2⟩
        match j, hj with
        | 0, _ => intro hh; exact hx (by rw [hh, hlo]; rfl)
        | j + 1, hj => 
          have := h1 j (by simpa using hj)
          rw [show b + (j + 1) = b + 1 + j by omega]
          exact this
theorem wx_tsw (tg : List Nat) (td b : Nat) {x : Int32} {cs : List (Option α)} {dd : Option α} {dflt lo hi : Int} {offs : Array Int} {len : Nat} (hd : decode M.2.1 pc = .ok (.tableswitch dflt lo hi offs, len)) (hlo : lo = (b : Int)) (hhi : hi + 1 = (b : Int) + tg.length) (hsm : b + tg.length < 1000) (ho1 : offs.toList.map (fun o => (pc : Int) + o) = tg.map (fun t : Nat => (t : Int))) (hdf : (pc : Int) + dflt = (td : Int))
    (hk : x_F2 (fun t q => Wx G M d t L st μ w q) tg cs) (hkd : Wx G M d td L st μ w dd) : Wx G M d pc L (.int x :: st) μ w (x_sw x (nI b) cs dd) := by
  intro a ho p e s m args below meth c E hr hq ls H locs hl hP hS
  rcases x_sw_at hk rfl (by omega) ho with ⟨j, t, q, h1, h2, h3, h4⟩ | ⟨h1, h2⟩
  · have hj : j < tg.length := (List.getElem?_eq_some_iff.mp h1).1
    have e1 : x.toInt = ((b + j : Nat) : Int) := by rw [h2]; exact nI_toInt (by omega)
    have e2 : (offs.toList.map (fun o => (pc : Int) + o))[j]? = some (t : Int) := by rw [ho1, List.getElem?_map, h1]; rfl
    rw [List.getElem?_map] at e2
    obtain ⟨off, e3, e4⟩ := Option.map_eq_some_iff.mp e2
    refine lv_tableIn (tgt := t) (off := off) E.1 E.2.1 hd (by omega) (by omega) ?_ e4 (h3 a h4 p e s m args below meth c E hr hq ls H locs hl hP hS)
    rw [show (x.toInt - lo).toNat = j by omega]
    simpa using e3
  · refine lv_tableOut (tgt := td) E.1 E.2.1 hd ?_ hdf (hkd a h2 p e s m args below meth c E hr hq ls H locs hl hP hS)
    rcases Int.lt_or_le x.toInt lo with q | q
    · exact Or.inl q
    · refine Or.inr ?_
      rcases Int.lt_or_le hi x.toInt with q2 | q2
      · exact q2
      · exfalso
        have h3 := h1 (x.toInt - b).toNat (by omega)
        apply h3
        apply Int32.toInt_inj.mp
        rw [nI_toInt (by omega)]
        omega
theorem wx_lsw2 (t0 t1 td : Nat) {x : Int32} {q0 q1 dd : Option α} {dflt o0 o1 : Int} {len : Nat} (hd : decode M.2.1 pc = .ok (.lookupswitch dflt #[(0, o0), (1, o1)], len)) (h0 : (pc : Int) + o0 = (t0 : Int)) (h1 : (pc : Int) + o1 = (t1 : Int)) (hdf : (pc : Int) + dflt = (td : Int))
    (k0 : Wx G M d t0 L st μ w q0) (k1 : Wx G M d t1 L st μ w q1) (kd : Wx G M d td L st μ w dd) : Wx G M d pc L (.int x :: st) μ w (x_sw x 0 [q0, q1] dd) := by
  intro a ho p e s m args below meth c E hr hq ls H locs hl hP hS
  simp only [x_sw] at ho
  by_cases e0 : x = 0
  · rw [if_pos e0] at ho
    exact lv_lookup E.1 E.2.1 hd rfl (by subst e0; rfl) h0 (k0 a ho p e s m args below meth c E hr hq ls H locs hl hP hS)
  · rw [if_neg e0] at ho
    by_cases e1 : x = 0 + 1
    · rw [if_pos e1] at ho
      exact lv_lookup E.1 E.2.1 hd rfl (by subst e1; rfl) h1 (k1 a ho p e s m args below meth c E hr hq ls H locs hl hP hS)
    · rw [if_neg e1] at ho
      refine lv_lookup (off := dflt) E.1 E.2.1 hd rfl ?_ hdf (kd a ho p e s m args below meth c E hr hq ls H locs hl hP hS)
      rw [lv_osw (k := 0) e0 (by decide), lv_osw (k := 0 + 1) e1 (by decide)]
      rfl
end WX
end
