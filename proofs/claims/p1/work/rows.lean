section
-- ===== PART A: goes FIRST, ahead of the names: the tables' words, and 'selects' of the private methods out of them =====
/-- a private method of a class that the tables say can be made, by its rows of tables_1 -/
def lw_okq (q : MethodName × Nat) : Prop := (q.1.cls ≠ "java/lang/invoke/MethodHandle" ∧ q.1.cls ≠ "java/lang/invoke/VarHandle") ∧ Cond.instantiable q.1.cls q.2 ∈ tables_1 ∧ Cond.privateMethod q.1 ∈ tables_1 ∧ Cond.instanceMethod q.1 ∈ tables_1
theorem lw_p0 : lw_okq (⟨"MirrorDrill", "tapeNumber", "(I)V"⟩, 17) := ⟨⟨by decide +kernel, by decide +kernel⟩, List.mem_of_getElem? (i := 23) (by decide +kernel), List.mem_of_getElem? (i := 432) (by decide +kernel), List.mem_of_getElem? (i := 433) (by decide +kernel)⟩
theorem lw_p1 : lw_okq (⟨"MirrorDrill$Reader", "advance", "()V"⟩, 16) := ⟨⟨by decide +kernel, by decide +kernel⟩, List.mem_of_getElem? (i := 31) (by decide +kernel), List.mem_of_getElem? (i := 458) (by decide +kernel), List.mem_of_getElem? (i := 459) (by decide +kernel)⟩
theorem lw_p2 : lw_okq (⟨"MirrorDrill$Reader", "packWord", "()V"⟩, 16) := ⟨⟨by decide +kernel, by decide +kernel⟩, List.mem_of_getElem? (i := 31) (by decide +kernel), List.mem_of_getElem? (i := 468) (by decide +kernel), List.mem_of_getElem? (i := 469) (by decide +kernel)⟩
theorem lw_p3 : lw_okq (⟨"MirrorDrill$Reader", "scanNumber", "()V"⟩, 16) := ⟨⟨by decide +kernel, by decide +kernel⟩, List.mem_of_getElem? (i := 31) (by decide +kernel), List.mem_of_getElem? (i := 528) (by decide +kernel), List.mem_of_getElem? (i := 529) (by decide +kernel)⟩
theorem lw_p4 : lw_okq (⟨"MirrorDrill$Reader", "startsLine", "(I)Z"⟩, 16) := ⟨⟨by decide +kernel, by decide +kernel⟩, List.mem_of_getElem? (i := 31) (by decide +kernel), List.mem_of_getElem? (i := 598) (by decide +kernel), List.mem_of_getElem? (i := 599) (by decide +kernel)⟩
theorem lw_p5 : lw_okq (⟨"MirrorDrill$Reader", "isTold", "(I)Z"⟩, 16) := ⟨⟨by decide +kernel, by decide +kernel⟩, List.mem_of_getElem? (i := 31) (by decide +kernel), List.mem_of_getElem? (i := 602) (by decide +kernel), List.mem_of_getElem? (i := 603) (by decide +kernel)⟩
theorem lw_p6 : lw_okq (⟨"MirrorDrill$Reader", "refuse", "(I)Z"⟩, 16) := ⟨⟨by decide +kernel, by decide +kernel⟩, List.mem_of_getElem? (i := 31) (by decide +kernel), List.mem_of_getElem? (i := 606) (by decide +kernel), List.mem_of_getElem? (i := 607) (by decide +kernel)⟩
theorem lw_p7 : lw_okq (⟨"MirrorDrill$Reader", "takeNumber", "(II)I"⟩, 16) := ⟨⟨by decide +kernel, by decide +kernel⟩, List.mem_of_getElem? (i := 31) (by decide +kernel), List.mem_of_getElem? (i := 610) (by decide +kernel), List.mem_of_getElem? (i := 611) (by decide +kernel)⟩
theorem lw_p8 : lw_okq (⟨"MirrorDrill$Reader", "takeMove", "()I"⟩, 16) := ⟨⟨by decide +kernel, by decide +kernel⟩, List.mem_of_getElem? (i := 31) (by decide +kernel), List.mem_of_getElem? (i := 614) (by decide +kernel), List.mem_of_getElem? (i := 615) (by decide +kernel)⟩
theorem lw_p9 : lw_okq (⟨"MirrorDrill$Reader", "readRule", "()Z"⟩, 16) := ⟨⟨by decide +kernel, by decide +kernel⟩, List.mem_of_getElem? (i := 31) (by decide +kernel), List.mem_of_getElem? (i := 618) (by decide +kernel), List.mem_of_getElem? (i := 619) (by decide +kernel)⟩
theorem lw_p10 : lw_okq (⟨"MirrorDrill$Reader", "ruleNamed", "(J)I"⟩, 16) := ⟨⟨by decide +kernel, by decide +kernel⟩, List.mem_of_getElem? (i := 31) (by decide +kernel), List.mem_of_getElem? (i := 622) (by decide +kernel), List.mem_of_getElem? (i := 623) (by decide +kernel)⟩
theorem lw_p11 : lw_okq (⟨"MirrorDrill$Reader", "readFormula", "(II)Z"⟩, 16) := ⟨⟨by decide +kernel, by decide +kernel⟩, List.mem_of_getElem? (i := 31) (by decide +kernel), List.mem_of_getElem? (i := 626) (by decide +kernel), List.mem_of_getElem? (i := 627) (by decide +kernel)⟩
theorem lw_p12 : lw_okq (⟨"MirrorDrill$Reader", "readUnit", "(I)Z"⟩, 16) := ⟨⟨by decide +kernel, by decide +kernel⟩, List.mem_of_getElem? (i := 31) (by decide +kernel), List.mem_of_getElem? (i := 630) (by decide +kernel), List.mem_of_getElem? (i := 631) (by decide +kernel)⟩
theorem lw_p13 : lw_okq (⟨"MirrorDrill$Reader", "layPart", "()V"⟩, 16) := ⟨⟨by decide +kernel, by decide +kernel⟩, List.mem_of_getElem? (i := 31) (by decide +kernel), List.mem_of_getElem? (i := 634) (by decide +kernel), List.mem_of_getElem? (i := 635) (by decide +kernel)⟩
theorem lw_p14 : lw_okq (⟨"MirrorDrill$Reader", "valueOf", "(I)I"⟩, 16) := ⟨⟨by decide +kernel, by decide +kernel⟩, List.mem_of_getElem? (i := 31) (by decide +kernel), List.mem_of_getElem? (i := 638) (by decide +kernel), List.mem_of_getElem? (i := 639) (by decide +kernel)⟩
theorem lw_p15 : lw_okq (⟨"MirrorDrill$Reader", "expect", "(I)Z"⟩, 16) := ⟨⟨by decide +kernel, by decide +kernel⟩, List.mem_of_getElem? (i := 31) (by decide +kernel), List.mem_of_getElem? (i := 642) (by decide +kernel), List.mem_of_getElem? (i := 643) (by decide +kernel)⟩
def lw_privs_1 : List (MethodName × Nat) := [(⟨"MirrorDrill", "tapeNumber", "(I)V"⟩, 17), (⟨"MirrorDrill$Reader", "advance", "()V"⟩, 16), (⟨"MirrorDrill$Reader", "packWord", "()V"⟩, 16), (⟨"MirrorDrill$Reader", "scanNumber", "()V"⟩, 16), (⟨"MirrorDrill$Reader", "startsLine", "(I)Z"⟩, 16), (⟨"MirrorDrill$Reader", "isTold", "(I)Z"⟩, 16), (⟨"MirrorDrill$Reader", "refuse", "(I)Z"⟩, 16), (⟨"MirrorDrill$Reader", "takeNumber", "(II)I"⟩, 16), (⟨"MirrorDrill$Reader", "takeMove", "()I"⟩, 16), (⟨"MirrorDrill$Reader", "readRule", "()Z"⟩, 16), (⟨"MirrorDrill$Reader", "ruleNamed", "(J)I"⟩, 16), (⟨"MirrorDrill$Reader", "readFormula", "(II)Z"⟩, 16), (⟨"MirrorDrill$Reader", "readUnit", "(I)Z"⟩, 16), (⟨"MirrorDrill$Reader", "layPart", "()V"⟩, 16), (⟨"MirrorDrill$Reader", "valueOf", "(I)I"⟩, 16), (⟨"MirrorDrill$Reader", "expect", "(I)Z"⟩, 16)]
theorem lw_r1 : ∀ q ∈ lw_privs_1, lw_okq q := List.forall_mem_cons.mpr ⟨lw_p0, List.forall_mem_cons.mpr ⟨lw_p1, List.forall_mem_cons.mpr ⟨lw_p2, List.forall_mem_cons.mpr ⟨lw_p3, List.forall_mem_cons.mpr ⟨lw_p4, List.forall_mem_cons.mpr ⟨lw_p5, List.forall_mem_cons.mpr ⟨lw_p6, List.forall_mem_cons.mpr ⟨lw_p7, List.forall_mem_cons.mpr ⟨lw_p8, List.forall_mem_cons.mpr ⟨lw_p9, List.forall_mem_cons.mpr ⟨lw_p10, List.forall_mem_cons.mpr ⟨lw_p11, List.forall_mem_cons.mpr ⟨lw_p12, List.forall_mem_cons.mpr ⟨lw_p13, List.forall_mem_cons.mpr ⟨lw_p14, List.forall_mem_cons.mpr ⟨lw_p15, fun _ h => absurd h List.not_mem_nil⟩⟩⟩⟩⟩⟩⟩⟩⟩⟩⟩⟩⟩⟩⟩⟩
theorem lw_p16 : lw_okq (⟨"MirrorDrill$Reader", "readNot", "(I)Z"⟩, 16) := ⟨⟨by decide +kernel, by decide +kernel⟩, List.mem_of_getElem? (i := 31) (by decide +kernel), List.mem_of_getElem? (i := 646) (by decide +kernel), List.mem_of_getElem? (i := 647) (by decide +kernel)⟩
theorem lw_p17 : lw_okq (⟨"MirrorDrill$Reader", "joinParts", "(I)V"⟩, 16) := ⟨⟨by decide +kernel, by decide +kernel⟩, List.mem_of_getElem? (i := 31) (by decide +kernel), List.mem_of_getElem? (i := 653) (by decide +kernel), List.mem_of_getElem? (i := 654) (by decide +kernel)⟩
theorem lw_p18 : lw_okq (⟨"MirrorDrill$Reader", "readMan", "()Z"⟩, 16) := ⟨⟨by decide +kernel, by decide +kernel⟩, List.mem_of_getElem? (i := 31) (by decide +kernel), List.mem_of_getElem? (i := 667) (by decide +kernel), List.mem_of_getElem? (i := 668) (by decide +kernel)⟩
theorem lw_p19 : lw_okq (⟨"MirrorDrill$Reader", "readBy", "(I)Z"⟩, 16) := ⟨⟨by decide +kernel, by decide +kernel⟩, List.mem_of_getElem? (i := 31) (by decide +kernel), List.mem_of_getElem? (i := 676) (by decide +kernel), List.mem_of_getElem? (i := 677) (by decide +kernel)⟩
theorem lw_p20 : lw_okq (⟨"MirrorDrill$Reader", "readMarks", "(I)Z"⟩, 16) := ⟨⟨by decide +kernel, by decide +kernel⟩, List.mem_of_getElem? (i := 31) (by decide +kernel), List.mem_of_getElem? (i := 680) (by decide +kernel), List.mem_of_getElem? (i := 681) (by decide +kernel)⟩
theorem lw_p21 : lw_okq (⟨"MirrorDrill$Reader", "readWindow", "(I)Z"⟩, 16) := ⟨⟨by decide +kernel, by decide +kernel⟩, List.mem_of_getElem? (i := 31) (by decide +kernel), List.mem_of_getElem? (i := 684) (by decide +kernel), List.mem_of_getElem? (i := 685) (by decide +kernel)⟩
theorem lw_p22 : lw_okq (⟨"MirrorDrill$Reader", "readWorths", "()Z"⟩, 16) := ⟨⟨by decide +kernel, by decide +kernel⟩, List.mem_of_getElem? (i := 31) (by decide +kernel), List.mem_of_getElem? (i := 688) (by decide +kernel), List.mem_of_getElem? (i := 689) (by decide +kernel)⟩
theorem lw_p23 : lw_okq (⟨"MirrorDrill$Drill", "told", "(IIII)I"⟩, 15) := ⟨⟨by decide +kernel, by decide +kernel⟩, List.mem_of_getElem? (i := 88) (by decide +kernel), List.mem_of_getElem? (i := 704) (by decide +kernel), List.mem_of_getElem? (i := 705) (by decide +kernel)⟩
theorem lw_p24 : lw_okq (⟨"MirrorDrill$Drill", "stays", "(I)Z"⟩, 15) := ⟨⟨by decide +kernel, by decide +kernel⟩, List.mem_of_getElem? (i := 88) (by decide +kernel), List.mem_of_getElem? (i := 712) (by decide +kernel), List.mem_of_getElem? (i := 713) (by decide +kernel)⟩
theorem lw_p25 : lw_okq (⟨"MirrorDrill$Drill", "widened", "(J)J"⟩, 15) := ⟨⟨by decide +kernel, by decide +kernel⟩, List.mem_of_getElem? (i := 88) (by decide +kernel), List.mem_of_getElem? (i := 798) (by decide +kernel), List.mem_of_getElem? (i := 799) (by decide +kernel)⟩
theorem lw_p26 : lw_okq (⟨"MirrorDrill$Drill", "stepsOf", "(JII)J"⟩, 15) := ⟨⟨by decide +kernel, by decide +kernel⟩, List.mem_of_getElem? (i := 88) (by decide +kernel), List.mem_of_getElem? (i := 803) (by decide +kernel), List.mem_of_getElem? (i := 804) (by decide +kernel)⟩
theorem lw_p27 : lw_okq (⟨"MirrorDrill$Course", "follow", "(LMirrorDrill$Drill;J)V"⟩, 5) := ⟨⟨by decide +kernel, by decide +kernel⟩, List.mem_of_getElem? (i := 203) (by decide +kernel), List.mem_of_getElem? (i := 851) (by decide +kernel), List.mem_of_getElem? (i := 852) (by decide +kernel)⟩
theorem lw_p28 : lw_okq (⟨"MirrorDrill$Course", "findLoop", "(LMirrorDrill$Drill;J)I"⟩, 5) := ⟨⟨by decide +kernel, by decide +kernel⟩, List.mem_of_getElem? (i := 203) (by decide +kernel), List.mem_of_getElem? (i := 855) (by decide +kernel), List.mem_of_getElem? (i := 856) (by decide +kernel)⟩
theorem lw_p29 : lw_okq (⟨"MirrorDrill$Forebears", "seekInRing", "()V"⟩, 5) := ⟨⟨by decide +kernel, by decide +kernel⟩, List.mem_of_getElem? (i := 225) (by decide +kernel), List.mem_of_getElem? (i := 877) (by decide +kernel), List.mem_of_getElem? (i := 878) (by decide +kernel)⟩
theorem lw_p30 : lw_okq (⟨"MirrorDrill$Forebears", "layWays", "(II)V"⟩, 5) := ⟨⟨by decide +kernel, by decide +kernel⟩, List.mem_of_getElem? (i := 225) (by decide +kernel), List.mem_of_getElem? (i := 881) (by decide +kernel), List.mem_of_getElem? (i := 882) (by decide +kernel)⟩
theorem lw_p31 : lw_okq (⟨"MirrorDrill$Forebears", "waysAtEnd", "(IIII)J"⟩, 5) := ⟨⟨by decide +kernel, by decide +kernel⟩, List.mem_of_getElem? (i := 225) (by decide +kernel), List.mem_of_getElem? (i := 888) (by decide +kernel), List.mem_of_getElem? (i := 889) (by decide +kernel)⟩
def lw_privs_2 : List (MethodName × Nat) := [(⟨"MirrorDrill$Reader", "readNot", "(I)Z"⟩, 16), (⟨"MirrorDrill$Reader", "joinParts", "(I)V"⟩, 16), (⟨"MirrorDrill$Reader", "readMan", "()Z"⟩, 16), (⟨"MirrorDrill$Reader", "readBy", "(I)Z"⟩, 16), (⟨"MirrorDrill$Reader", "readMarks", "(I)Z"⟩, 16), (⟨"MirrorDrill$Reader", "readWindow", "(I)Z"⟩, 16), (⟨"MirrorDrill$Reader", "readWorths", "()Z"⟩, 16), (⟨"MirrorDrill$Drill", "told", "(IIII)I"⟩, 15), (⟨"MirrorDrill$Drill", "stays", "(I)Z"⟩, 15), (⟨"MirrorDrill$Drill", "widened", "(J)J"⟩, 15), (⟨"MirrorDrill$Drill", "stepsOf", "(JII)J"⟩, 15), (⟨"MirrorDrill$Course", "follow", "(LMirrorDrill$Drill;J)V"⟩, 5), (⟨"MirrorDrill$Course", "findLoop", "(LMirrorDrill$Drill;J)I"⟩, 5), (⟨"MirrorDrill$Forebears", "seekInRing", "()V"⟩, 5), (⟨"MirrorDrill$Forebears", "layWays", "(II)V"⟩, 5), (⟨"MirrorDrill$Forebears", "waysAtEnd", "(IIII)J"⟩, 5)]
theorem lw_r2 : ∀ q ∈ lw_privs_2, lw_okq q := List.forall_mem_cons.mpr ⟨lw_p16, List.forall_mem_cons.mpr ⟨lw_p17, List.forall_mem_cons.mpr ⟨lw_p18, List.forall_mem_cons.mpr ⟨lw_p19, List.forall_mem_cons.mpr ⟨lw_p20, List.forall_mem_cons.mpr ⟨lw_p21, List.forall_mem_cons.mpr ⟨lw_p22, List.forall_mem_cons.mpr ⟨lw_p23, List.forall_mem_cons.mpr ⟨lw_p24, List.forall_mem_cons.mpr ⟨lw_p25, List.forall_mem_cons.mpr ⟨lw_p26, List.forall_mem_cons.mpr ⟨lw_p27, List.forall_mem_cons.mpr ⟨lw_p28, List.forall_mem_cons.mpr ⟨lw_p29, List.forall_mem_cons.mpr ⟨lw_p30, List.forall_mem_cons.mpr ⟨lw_p31, fun _ h => absurd h List.not_mem_nil⟩⟩⟩⟩⟩⟩⟩⟩⟩⟩⟩⟩⟩⟩⟩⟩
theorem lw_p32 : lw_okq (⟨"MirrorDrill$Forebears", "leads", "(IIII)Z"⟩, 5) := ⟨⟨by decide +kernel, by decide +kernel⟩, List.mem_of_getElem? (i := 225) (by decide +kernel), List.mem_of_getElem? (i := 892) (by decide +kernel), List.mem_of_getElem? (i := 893) (by decide +kernel)⟩
theorem lw_p33 : lw_okq (⟨"MirrorDrill$Forebears", "waysBehind", "(III)J"⟩, 5) := ⟨⟨by decide +kernel, by decide +kernel⟩, List.mem_of_getElem? (i := 225) (by decide +kernel), List.mem_of_getElem? (i := 899) (by decide +kernel), List.mem_of_getElem? (i := 900) (by decide +kernel)⟩
theorem lw_p34 : lw_okq (⟨"MirrorDrill$Forebears", "addUp", "(II)V"⟩, 5) := ⟨⟨by decide +kernel, by decide +kernel⟩, List.mem_of_getElem? (i := 225) (by decide +kernel), List.mem_of_getElem? (i := 903) (by decide +kernel), List.mem_of_getElem? (i := 904) (by decide +kernel)⟩
theorem lw_p35 : lw_okq (⟨"MirrorDrill$Forebears", "keyOfFirst", "(II)J"⟩, 5) := ⟨⟨by decide +kernel, by decide +kernel⟩, List.mem_of_getElem? (i := 225) (by decide +kernel), List.mem_of_getElem? (i := 907) (by decide +kernel), List.mem_of_getElem? (i := 908) (by decide +kernel)⟩
theorem lw_p36 : lw_okq (⟨"MirrorDrill$Forebears", "firstBehind", "(III)I"⟩, 5) := ⟨⟨by decide +kernel, by decide +kernel⟩, List.mem_of_getElem? (i := 225) (by decide +kernel), List.mem_of_getElem? (i := 911) (by decide +kernel), List.mem_of_getElem? (i := 912) (by decide +kernel)⟩
theorem lw_p37 : lw_okq (⟨"MirrorDrill$Endless", "take", "(LMirrorDrill$Drill;I)V"⟩, 10) := ⟨⟨by decide +kernel, by decide +kernel⟩, List.mem_of_getElem? (i := 247) (by decide +kernel), List.mem_of_getElem? (i := 961) (by decide +kernel), List.mem_of_getElem? (i := 962) (by decide +kernel)⟩
theorem lw_p38 : lw_okq (⟨"MirrorDrill$Endless", "layLeads", "()V"⟩, 10) := ⟨⟨by decide +kernel, by decide +kernel⟩, List.mem_of_getElem? (i := 247) (by decide +kernel), List.mem_of_getElem? (i := 965) (by decide +kernel), List.mem_of_getElem? (i := 966) (by decide +kernel)⟩
theorem lw_p39 : lw_okq (⟨"MirrorDrill$Endless", "leadsOf", "(I)J"⟩, 10) := ⟨⟨by decide +kernel, by decide +kernel⟩, List.mem_of_getElem? (i := 247) (by decide +kernel), List.mem_of_getElem? (i := 969) (by decide +kernel), List.mem_of_getElem? (i := 970) (by decide +kernel)⟩
theorem lw_p40 : lw_okq (⟨"MirrorDrill$Endless", "leftOf", "(I)I"⟩, 10) := ⟨⟨by decide +kernel, by decide +kernel⟩, List.mem_of_getElem? (i := 247) (by decide +kernel), List.mem_of_getElem? (i := 973) (by decide +kernel), List.mem_of_getElem? (i := 974) (by decide +kernel)⟩
theorem lw_p41 : lw_okq (⟨"MirrorDrill$Endless", "ownOf", "(I)I"⟩, 10) := ⟨⟨by decide +kernel, by decide +kernel⟩, List.mem_of_getElem? (i := 247) (by decide +kernel), List.mem_of_getElem? (i := 977) (by decide +kernel), List.mem_of_getElem? (i := 978) (by decide +kernel)⟩
theorem lw_p42 : lw_okq (⟨"MirrorDrill$Endless", "makes", "(III)I"⟩, 10) := ⟨⟨by decide +kernel, by decide +kernel⟩, List.mem_of_getElem? (i := 247) (by decide +kernel), List.mem_of_getElem? (i := 981) (by decide +kernel), List.mem_of_getElem? (i := 982) (by decide +kernel)⟩
theorem lw_p43 : lw_okq (⟨"MirrorDrill$Endless", "beginQueue", "()V"⟩, 10) := ⟨⟨by decide +kernel, by decide +kernel⟩, List.mem_of_getElem? (i := 247) (by decide +kernel), List.mem_of_getElem? (i := 987) (by decide +kernel), List.mem_of_getElem? (i := 988) (by decide +kernel)⟩
theorem lw_p44 : lw_okq (⟨"MirrorDrill$Endless", "enqueue", "(II)V"⟩, 10) := ⟨⟨by decide +kernel, by decide +kernel⟩, List.mem_of_getElem? (i := 247) (by decide +kernel), List.mem_of_getElem? (i := 993) (by decide +kernel), List.mem_of_getElem? (i := 994) (by decide +kernel)⟩
theorem lw_p45 : lw_okq (⟨"MirrorDrill$Endless", "behind", "(I)J"⟩, 10) := ⟨⟨by decide +kernel, by decide +kernel⟩, List.mem_of_getElem? (i := 247) (by decide +kernel), List.mem_of_getElem? (i := 1000) (by decide +kernel), List.mem_of_getElem? (i := 1001) (by decide +kernel)⟩
theorem lw_p46 : lw_okq (⟨"MirrorDrill$Endless", "layWord", "(IILMirrorDrill$Pile;)I"⟩, 10) := ⟨⟨by decide +kernel, by decide +kernel⟩, List.mem_of_getElem? (i := 247) (by decide +kernel), List.mem_of_getElem? (i := 1004) (by decide +kernel), List.mem_of_getElem? (i := 1005) (by decide +kernel)⟩
theorem lw_p47 : lw_okq (⟨"MirrorDrill$Endless", "moveBetween", "(II)I"⟩, 10) := ⟨⟨by decide +kernel, by decide +kernel⟩, List.mem_of_getElem? (i := 247) (by decide +kernel), List.mem_of_getElem? (i := 1010) (by decide +kernel), List.mem_of_getElem? (i := 1011) (by decide +kernel)⟩
def lw_privs_3 : List (MethodName × Nat) := [(⟨"MirrorDrill$Forebears", "leads", "(IIII)Z"⟩, 5), (⟨"MirrorDrill$Forebears", "waysBehind", "(III)J"⟩, 5), (⟨"MirrorDrill$Forebears", "addUp", "(II)V"⟩, 5), (⟨"MirrorDrill$Forebears", "keyOfFirst", "(II)J"⟩, 5), (⟨"MirrorDrill$Forebears", "firstBehind", "(III)I"⟩, 5), (⟨"MirrorDrill$Endless", "take", "(LMirrorDrill$Drill;I)V"⟩, 10), (⟨"MirrorDrill$Endless", "layLeads", "()V"⟩, 10), (⟨"MirrorDrill$Endless", "leadsOf", "(I)J"⟩, 10), (⟨"MirrorDrill$Endless", "leftOf", "(I)I"⟩, 10), (⟨"MirrorDrill$Endless", "ownOf", "(I)I"⟩, 10), (⟨"MirrorDrill$Endless", "makes", "(III)I"⟩, 10), (⟨"MirrorDrill$Endless", "beginQueue", "()V"⟩, 10), (⟨"MirrorDrill$Endless", "enqueue", "(II)V"⟩, 10), (⟨"MirrorDrill$Endless", "behind", "(I)J"⟩, 10), (⟨"MirrorDrill$Endless", "layWord", "(IILMirrorDrill$Pile;)I"⟩, 10), (⟨"MirrorDrill$Endless", "moveBetween", "(II)I"⟩, 10)]
theorem lw_r3 : ∀ q ∈ lw_privs_3, lw_okq q := List.forall_mem_cons.mpr ⟨lw_p32, List.forall_mem_cons.mpr ⟨lw_p33, List.forall_mem_cons.mpr ⟨lw_p34, List.forall_mem_cons.mpr ⟨lw_p35, List.forall_mem_cons.mpr ⟨lw_p36, List.forall_mem_cons.mpr ⟨lw_p37, List.forall_mem_cons.mpr ⟨lw_p38, List.forall_mem_cons.mpr ⟨lw_p39, List.forall_mem_cons.mpr ⟨lw_p40, List.forall_mem_cons.mpr ⟨lw_p41, List.forall_mem_cons.mpr ⟨lw_p42, List.forall_mem_cons.mpr ⟨lw_p43, List.forall_mem_cons.mpr ⟨lw_p44, List.forall_mem_cons.mpr ⟨lw_p45, List.forall_mem_cons.mpr ⟨lw_p46, List.forall_mem_cons.mpr ⟨lw_p47, fun _ h => absurd h List.not_mem_nil⟩⟩⟩⟩⟩⟩⟩⟩⟩⟩⟩⟩⟩⟩⟩⟩
theorem lw_p48 : lw_okq (⟨"MirrorDrill$Endless", "thinOut", "()Z"⟩, 10) := ⟨⟨by decide +kernel, by decide +kernel⟩, List.mem_of_getElem? (i := 247) (by decide +kernel), List.mem_of_getElem? (i := 1022) (by decide +kernel), List.mem_of_getElem? (i := 1023) (by decide +kernel)⟩
theorem lw_p49 : lw_okq (⟨"MirrorDrill$Endless", "walkTogether", "(II)Z"⟩, 10) := ⟨⟨by decide +kernel, by decide +kernel⟩, List.mem_of_getElem? (i := 247) (by decide +kernel), List.mem_of_getElem? (i := 1026) (by decide +kernel), List.mem_of_getElem? (i := 1027) (by decide +kernel)⟩
theorem lw_p50 : lw_okq (⟨"MirrorDrill$Endless", "goesOn", "(II)Z"⟩, 10) := ⟨⟨by decide +kernel, by decide +kernel⟩, List.mem_of_getElem? (i := 247) (by decide +kernel), List.mem_of_getElem? (i := 1030) (by decide +kernel), List.mem_of_getElem? (i := 1031) (by decide +kernel)⟩
theorem lw_p51 : lw_okq (⟨"MirrorDrill$Endless", "cameFrom", "(II)Z"⟩, 10) := ⟨⟨by decide +kernel, by decide +kernel⟩, List.mem_of_getElem? (i := 247) (by decide +kernel), List.mem_of_getElem? (i := 1034) (by decide +kernel), List.mem_of_getElem? (i := 1035) (by decide +kernel)⟩
theorem lw_p52 : lw_okq (⟨"MirrorDrill$Endless", "isRing", "(II)Z"⟩, 10) := ⟨⟨by decide +kernel, by decide +kernel⟩, List.mem_of_getElem? (i := 247) (by decide +kernel), List.mem_of_getElem? (i := 1046) (by decide +kernel), List.mem_of_getElem? (i := 1047) (by decide +kernel)⟩
theorem lw_p53 : lw_okq (⟨"MirrorDrill$Endless", "gainOf", "(II)I"⟩, 10) := ⟨⟨by decide +kernel, by decide +kernel⟩, List.mem_of_getElem? (i := 247) (by decide +kernel), List.mem_of_getElem? (i := 1051) (by decide +kernel), List.mem_of_getElem? (i := 1052) (by decide +kernel)⟩
theorem lw_p54 : lw_okq (⟨"MirrorDrill$Changes", "isSoAnyway", "()Z"⟩, 9) := ⟨⟨by decide +kernel, by decide +kernel⟩, List.mem_of_getElem? (i := 284) (by decide +kernel), List.mem_of_getElem? (i := 1087) (by decide +kernel), List.mem_of_getElem? (i := 1088) (by decide +kernel)⟩
theorem lw_p55 : lw_okq (⟨"MirrorDrill$Changes", "orderMen", "(II)Z"⟩, 9) := ⟨⟨by decide +kernel, by decide +kernel⟩, List.mem_of_getElem? (i := 284) (by decide +kernel), List.mem_of_getElem? (i := 1092) (by decide +kernel), List.mem_of_getElem? (i := 1093) (by decide +kernel)⟩
theorem lw_p56 : lw_okq (⟨"MirrorDrill$Changes", "orderMoves", "(IJ)Z"⟩, 9) := ⟨⟨by decide +kernel, by decide +kernel⟩, List.mem_of_getElem? (i := 284) (by decide +kernel), List.mem_of_getElem? (i := 1096) (by decide +kernel), List.mem_of_getElem? (i := 1097) (by decide +kernel)⟩
theorem lw_p57 : lw_okq (⟨"MirrorDrill$Changes", "comesTrue", "(J)Z"⟩, 9) := ⟨⟨by decide +kernel, by decide +kernel⟩, List.mem_of_getElem? (i := 284) (by decide +kernel), List.mem_of_getElem? (i := 1100) (by decide +kernel), List.mem_of_getElem? (i := 1101) (by decide +kernel)⟩
theorem lw_p58 : lw_okq (⟨"MirrorDrill$Changes", "layMen", "(LMirrorDrill$Pile;)V"⟩, 9) := ⟨⟨by decide +kernel, by decide +kernel⟩, List.mem_of_getElem? (i := 284) (by decide +kernel), List.mem_of_getElem? (i := 1112) (by decide +kernel), List.mem_of_getElem? (i := 1113) (by decide +kernel)⟩
theorem lw_p59 : lw_okq (⟨"MirrorDrill$Changes", "crackMen", "(IIJ)Z"⟩, 9) := ⟨⟨by decide +kernel, by decide +kernel⟩, List.mem_of_getElem? (i := 284) (by decide +kernel), List.mem_of_getElem? (i := 1125) (by decide +kernel), List.mem_of_getElem? (i := 1126) (by decide +kernel)⟩
theorem lw_p60 : lw_okq (⟨"MirrorDrill$Changes", "comesTrueCracked", "(J)Z"⟩, 9) := ⟨⟨by decide +kernel, by decide +kernel⟩, List.mem_of_getElem? (i := 284) (by decide +kernel), List.mem_of_getElem? (i := 1129) (by decide +kernel), List.mem_of_getElem? (i := 1130) (by decide +kernel)⟩
theorem lw_p61 : lw_okq (⟨"MirrorDrill$Witness", "gather", "(LMirrorDrill$Drill;I)I"⟩, 17) := ⟨⟨by decide +kernel, by decide +kernel⟩, List.mem_of_getElem? (i := 318) (by decide +kernel), List.mem_of_getElem? (i := 1185) (by decide +kernel), List.mem_of_getElem? (i := 1186) (by decide +kernel)⟩
theorem lw_p62 : lw_okq (⟨"MirrorDrill$Witness", "counts", "(II)Z"⟩, 17) := ⟨⟨by decide +kernel, by decide +kernel⟩, List.mem_of_getElem? (i := 318) (by decide +kernel), List.mem_of_getElem? (i := 1192) (by decide +kernel), List.mem_of_getElem? (i := 1193) (by decide +kernel)⟩
theorem lw_p63 : lw_okq (⟨"MirrorDrill$Witness", "demand", "(III)V"⟩, 17) := ⟨⟨by decide +kernel, by decide +kernel⟩, List.mem_of_getElem? (i := 318) (by decide +kernel), List.mem_of_getElem? (i := 1196) (by decide +kernel), List.mem_of_getElem? (i := 1197) (by decide +kernel)⟩
def lw_privs_4 : List (MethodName × Nat) := [(⟨"MirrorDrill$Endless", "thinOut", "()Z"⟩, 10), (⟨"MirrorDrill$Endless", "walkTogether", "(II)Z"⟩, 10), (⟨"MirrorDrill$Endless", "goesOn", "(II)Z"⟩, 10), (⟨"MirrorDrill$Endless", "cameFrom", "(II)Z"⟩, 10), (⟨"MirrorDrill$Endless", "isRing", "(II)Z"⟩, 10), (⟨"MirrorDrill$Endless", "gainOf", "(II)I"⟩, 10), (⟨"MirrorDrill$Changes", "isSoAnyway", "()Z"⟩, 9), (⟨"MirrorDrill$Changes", "orderMen", "(II)Z"⟩, 9), (⟨"MirrorDrill$Changes", "orderMoves", "(IJ)Z"⟩, 9), (⟨"MirrorDrill$Changes", "comesTrue", "(J)Z"⟩, 9), (⟨"MirrorDrill$Changes", "layMen", "(LMirrorDrill$Pile;)V"⟩, 9), (⟨"MirrorDrill$Changes", "crackMen", "(IIJ)Z"⟩, 9), (⟨"MirrorDrill$Changes", "comesTrueCracked", "(J)Z"⟩, 9), (⟨"MirrorDrill$Witness", "gather", "(LMirrorDrill$Drill;I)I"⟩, 17), (⟨"MirrorDrill$Witness", "counts", "(II)Z"⟩, 17), (⟨"MirrorDrill$Witness", "demand", "(III)V"⟩, 17)]
theorem lw_r4 : ∀ q ∈ lw_privs_4, lw_okq q := List.forall_mem_cons.mpr ⟨lw_p48, List.forall_mem_cons.mpr ⟨lw_p49, List.forall_mem_cons.mpr ⟨lw_p50, List.forall_mem_cons.mpr ⟨lw_p51, List.forall_mem_cons.mpr ⟨lw_p52, List.forall_mem_cons.mpr ⟨lw_p53, List.forall_mem_cons.mpr ⟨lw_p54, List.forall_mem_cons.mpr ⟨lw_p55, List.forall_mem_cons.mpr ⟨lw_p56, List.forall_mem_cons.mpr ⟨lw_p57, List.forall_mem_cons.mpr ⟨lw_p58, List.forall_mem_cons.mpr ⟨lw_p59, List.forall_mem_cons.mpr ⟨lw_p60, List.forall_mem_cons.mpr ⟨lw_p61, List.forall_mem_cons.mpr ⟨lw_p62, List.forall_mem_cons.mpr ⟨lw_p63, fun _ h => absurd h List.not_mem_nil⟩⟩⟩⟩⟩⟩⟩⟩⟩⟩⟩⟩⟩⟩⟩⟩
theorem lw_p64 : lw_okq (⟨"MirrorDrill$Witness", "tryAll", "()V"⟩, 17) := ⟨⟨by decide +kernel, by decide +kernel⟩, List.mem_of_getElem? (i := 318) (by decide +kernel), List.mem_of_getElem? (i := 1203) (by decide +kernel), List.mem_of_getElem? (i := 1204) (by decide +kernel)⟩
theorem lw_p65 : lw_okq (⟨"MirrorDrill$Witness", "listUnsure", "()I"⟩, 17) := ⟨⟨by decide +kernel, by decide +kernel⟩, List.mem_of_getElem? (i := 318) (by decide +kernel), List.mem_of_getElem? (i := 1207) (by decide +kernel), List.mem_of_getElem? (i := 1208) (by decide +kernel)⟩
theorem lw_p66 : lw_okq (⟨"MirrorDrill$Witness", "rowOfCase", "(II)J"⟩, 17) := ⟨⟨by decide +kernel, by decide +kernel⟩, List.mem_of_getElem? (i := 318) (by decide +kernel), List.mem_of_getElem? (i := 1216) (by decide +kernel), List.mem_of_getElem? (i := 1217) (by decide +kernel)⟩
theorem lw_p67 : lw_okq (⟨"MirrorDrill$Witness", "holds", "(JIII)Z"⟩, 17) := ⟨⟨by decide +kernel, by decide +kernel⟩, List.mem_of_getElem? (i := 318) (by decide +kernel), List.mem_of_getElem? (i := 1220) (by decide +kernel), List.mem_of_getElem? (i := 1221) (by decide +kernel)⟩
theorem lw_p68 : lw_okq (⟨"MirrorDrill$Witness", "isAsSeen", "(JI)Z"⟩, 17) := ⟨⟨by decide +kernel, by decide +kernel⟩, List.mem_of_getElem? (i := 318) (by decide +kernel), List.mem_of_getElem? (i := 1224) (by decide +kernel), List.mem_of_getElem? (i := 1225) (by decide +kernel)⟩
theorem lw_p69 : lw_okq (⟨"MirrorDrill$Witness", "noteMoves", "(JI)V"⟩, 17) := ⟨⟨by decide +kernel, by decide +kernel⟩, List.mem_of_getElem? (i := 318) (by decide +kernel), List.mem_of_getElem? (i := 1230) (by decide +kernel), List.mem_of_getElem? (i := 1231) (by decide +kernel)⟩
theorem lw_p70 : lw_okq (⟨"MirrorDrillModel", "clearBank", "()V"⟩, 80) := ⟨⟨by decide +kernel, by decide +kernel⟩, List.mem_of_getElem? (i := 1292) (by decide +kernel), List.mem_of_getElem? (i := 1299) (by decide +kernel), List.mem_of_getElem? (i := 1300) (by decide +kernel)⟩
theorem lw_p71 : lw_okq (⟨"MirrorDrillModel", "begin", "()V"⟩, 80) := ⟨⟨by decide +kernel, by decide +kernel⟩, List.mem_of_getElem? (i := 1292) (by decide +kernel), List.mem_of_getElem? (i := 1303) (by decide +kernel), List.mem_of_getElem? (i := 1304) (by decide +kernel)⟩
theorem lw_p72 : lw_okq (⟨"MirrorDrillModel", "layFirst", "()V"⟩, 80) := ⟨⟨by decide +kernel, by decide +kernel⟩, List.mem_of_getElem? (i := 1292) (by decide +kernel), List.mem_of_getElem? (i := 1307) (by decide +kernel), List.mem_of_getElem? (i := 1308) (by decide +kernel)⟩
theorem lw_p73 : lw_okq (⟨"MirrorDrillModel", "keepNow", "()V"⟩, 80) := ⟨⟨by decide +kernel, by decide +kernel⟩, List.mem_of_getElem? (i := 1292) (by decide +kernel), List.mem_of_getElem? (i := 1311) (by decide +kernel), List.mem_of_getElem? (i := 1312) (by decide +kernel)⟩
theorem lw_p74 : lw_okq (⟨"MirrorDrillModel", "goOn", "()V"⟩, 80) := ⟨⟨by decide +kernel, by decide +kernel⟩, List.mem_of_getElem? (i := 1292) (by decide +kernel), List.mem_of_getElem? (i := 1561) (by decide +kernel), List.mem_of_getElem? (i := 1562) (by decide +kernel)⟩
theorem lw_p75 : lw_okq (⟨"MirrorDrillModel", "sign", "(I)I"⟩, 80) := ⟨⟨by decide +kernel, by decide +kernel⟩, List.mem_of_getElem? (i := 1292) (by decide +kernel), List.mem_of_getElem? (i := 1565) (by decide +kernel), List.mem_of_getElem? (i := 1566) (by decide +kernel)⟩
theorem lw_p76 : lw_okq (⟨"MirrorDrillModel", "isGood", "()Z"⟩, 80) := ⟨⟨by decide +kernel, by decide +kernel⟩, List.mem_of_getElem? (i := 1292) (by decide +kernel), List.mem_of_getElem? (i := 1599) (by decide +kernel), List.mem_of_getElem? (i := 1600) (by decide +kernel)⟩
theorem lw_p77 : lw_okq (⟨"MirrorDrillModel", "readLine", "()V"⟩, 80) := ⟨⟨by decide +kernel, by decide +kernel⟩, List.mem_of_getElem? (i := 1292) (by decide +kernel), List.mem_of_getElem? (i := 1603) (by decide +kernel), List.mem_of_getElem? (i := 1604) (by decide +kernel)⟩
theorem lw_p78 : lw_okq (⟨"MirrorDrillModel", "isFull", "()Z"⟩, 80) := ⟨⟨by decide +kernel, by decide +kernel⟩, List.mem_of_getElem? (i := 1292) (by decide +kernel), List.mem_of_getElem? (i := 1607) (by decide +kernel), List.mem_of_getElem? (i := 1608) (by decide +kernel)⟩
theorem lw_p79 : lw_okq (⟨"MirrorDrillModel", "isWord", "(J)Z"⟩, 80) := ⟨⟨by decide +kernel, by decide +kernel⟩, List.mem_of_getElem? (i := 1292) (by decide +kernel), List.mem_of_getElem? (i := 1611) (by decide +kernel), List.mem_of_getElem? (i := 1612) (by decide +kernel)⟩
def lw_privs_5 : List (MethodName × Nat) := [(⟨"MirrorDrill$Witness", "tryAll", "()V"⟩, 17), (⟨"MirrorDrill$Witness", "listUnsure", "()I"⟩, 17), (⟨"MirrorDrill$Witness", "rowOfCase", "(II)J"⟩, 17), (⟨"MirrorDrill$Witness", "holds", "(JIII)Z"⟩, 17), (⟨"MirrorDrill$Witness", "isAsSeen", "(JI)Z"⟩, 17), (⟨"MirrorDrill$Witness", "noteMoves", "(JI)V"⟩, 17), (⟨"MirrorDrillModel", "clearBank", "()V"⟩, 80), (⟨"MirrorDrillModel", "begin", "()V"⟩, 80), (⟨"MirrorDrillModel", "layFirst", "()V"⟩, 80), (⟨"MirrorDrillModel", "keepNow", "()V"⟩, 80), (⟨"MirrorDrillModel", "goOn", "()V"⟩, 80), (⟨"MirrorDrillModel", "sign", "(I)I"⟩, 80), (⟨"MirrorDrillModel", "isGood", "()Z"⟩, 80), (⟨"MirrorDrillModel", "readLine", "()V"⟩, 80), (⟨"MirrorDrillModel", "isFull", "()Z"⟩, 80), (⟨"MirrorDrillModel", "isWord", "(J)Z"⟩, 80)]
theorem lw_r5 : ∀ q ∈ lw_privs_5, lw_okq q := List.forall_mem_cons.mpr ⟨lw_p64, List.forall_mem_cons.mpr ⟨lw_p65, List.forall_mem_cons.mpr ⟨lw_p66, List.forall_mem_cons.mpr ⟨lw_p67, List.forall_mem_cons.mpr ⟨lw_p68, List.forall_mem_cons.mpr ⟨lw_p69, List.forall_mem_cons.mpr ⟨lw_p70, List.forall_mem_cons.mpr ⟨lw_p71, List.forall_mem_cons.mpr ⟨lw_p72, List.forall_mem_cons.mpr ⟨lw_p73, List.forall_mem_cons.mpr ⟨lw_p74, List.forall_mem_cons.mpr ⟨lw_p75, List.forall_mem_cons.mpr ⟨lw_p76, List.forall_mem_cons.mpr ⟨lw_p77, List.forall_mem_cons.mpr ⟨lw_p78, List.forall_mem_cons.mpr ⟨lw_p79, fun _ h => absurd h List.not_mem_nil⟩⟩⟩⟩⟩⟩⟩⟩⟩⟩⟩⟩⟩⟩⟩⟩
theorem lw_p80 : lw_okq (⟨"MirrorDrillModel", "misplaced", "()V"⟩, 80) := ⟨⟨by decide +kernel, by decide +kernel⟩, List.mem_of_getElem? (i := 1292) (by decide +kernel), List.mem_of_getElem? (i := 1615) (by decide +kernel), List.mem_of_getElem? (i := 1616) (by decide +kernel)⟩
theorem lw_p81 : lw_okq (⟨"MirrorDrillModel", "fails", "(II)V"⟩, 80) := ⟨⟨by decide +kernel, by decide +kernel⟩, List.mem_of_getElem? (i := 1292) (by decide +kernel), List.mem_of_getElem? (i := 1619) (by decide +kernel), List.mem_of_getElem? (i := 1620) (by decide +kernel)⟩
theorem lw_p82 : lw_okq (⟨"MirrorDrillModel", "numeral", "(II)I"⟩, 80) := ⟨⟨by decide +kernel, by decide +kernel⟩, List.mem_of_getElem? (i := 1292) (by decide +kernel), List.mem_of_getElem? (i := 1623) (by decide +kernel), List.mem_of_getElem? (i := 1624) (by decide +kernel)⟩
theorem lw_p83 : lw_okq (⟨"MirrorDrillModel", "readRule", "()V"⟩, 80) := ⟨⟨by decide +kernel, by decide +kernel⟩, List.mem_of_getElem? (i := 1292) (by decide +kernel), List.mem_of_getElem? (i := 1627) (by decide +kernel), List.mem_of_getElem? (i := 1628) (by decide +kernel)⟩
theorem lw_p84 : lw_okq (⟨"MirrorDrillModel", "ruleHere", "()I"⟩, 80) := ⟨⟨by decide +kernel, by decide +kernel⟩, List.mem_of_getElem? (i := 1292) (by decide +kernel), List.mem_of_getElem? (i := 1631) (by decide +kernel), List.mem_of_getElem? (i := 1632) (by decide +kernel)⟩
theorem lw_p85 : lw_okq (⟨"MirrorDrillModel", "e", "()V"⟩, 80) := ⟨⟨by decide +kernel, by decide +kernel⟩, List.mem_of_getElem? (i := 1292) (by decide +kernel), List.mem_of_getElem? (i := 1635) (by decide +kernel), List.mem_of_getElem? (i := 1636) (by decide +kernel)⟩
theorem lw_p86 : lw_okq (⟨"MirrorDrillModel", "pushE", "(II)V"⟩, 80) := ⟨⟨by decide +kernel, by decide +kernel⟩, List.mem_of_getElem? (i := 1292) (by decide +kernel), List.mem_of_getElem? (i := 1639) (by decide +kernel), List.mem_of_getElem? (i := 1640) (by decide +kernel)⟩
theorem lw_p87 : lw_okq (⟨"MirrorDrillModel", "unit", "()Z"⟩, 80) := ⟨⟨by decide +kernel, by decide +kernel⟩, List.mem_of_getElem? (i := 1292) (by decide +kernel), List.mem_of_getElem? (i := 1643) (by decide +kernel), List.mem_of_getElem? (i := 1644) (by decide +kernel)⟩
theorem lw_p88 : lw_okq (⟨"MirrorDrillModel", "isSignHere", "(I)Z"⟩, 80) := ⟨⟨by decide +kernel, by decide +kernel⟩, List.mem_of_getElem? (i := 1292) (by decide +kernel), List.mem_of_getElem? (i := 1647) (by decide +kernel), List.mem_of_getElem? (i := 1648) (by decide +kernel)⟩
theorem lw_p89 : lw_okq (⟨"MirrorDrillModel", "wordHere", "()I"⟩, 80) := ⟨⟨by decide +kernel, by decide +kernel⟩, List.mem_of_getElem? (i := 1292) (by decide +kernel), List.mem_of_getElem? (i := 1651) (by decide +kernel), List.mem_of_getElem? (i := 1652) (by decide +kernel)⟩
theorem lw_p90 : lw_okq (⟨"MirrorDrillModel", "emit", "(II)V"⟩, 80) := ⟨⟨by decide +kernel, by decide +kernel⟩, List.mem_of_getElem? (i := 1292) (by decide +kernel), List.mem_of_getElem? (i := 1655) (by decide +kernel), List.mem_of_getElem? (i := 1656) (by decide +kernel)⟩
theorem lw_p91 : lw_okq (⟨"MirrorDrillModel", "behindUnit", "()Z"⟩, 80) := ⟨⟨by decide +kernel, by decide +kernel⟩, List.mem_of_getElem? (i := 1292) (by decide +kernel), List.mem_of_getElem? (i := 1659) (by decide +kernel), List.mem_of_getElem? (i := 1660) (by decide +kernel)⟩
theorem lw_p92 : lw_okq (⟨"MirrorDrillModel", "rankHere", "()I"⟩, 80) := ⟨⟨by decide +kernel, by decide +kernel⟩, List.mem_of_getElem? (i := 1292) (by decide +kernel), List.mem_of_getElem? (i := 1663) (by decide +kernel), List.mem_of_getElem? (i := 1664) (by decide +kernel)⟩
theorem lw_p93 : lw_okq (⟨"MirrorDrillModel", "isCompared", "()Z"⟩, 80) := ⟨⟨by decide +kernel, by decide +kernel⟩, List.mem_of_getElem? (i := 1292) (by decide +kernel), List.mem_of_getElem? (i := 1667) (by decide +kernel), List.mem_of_getElem? (i := 1668) (by decide +kernel)⟩
theorem lw_p94 : lw_okq (⟨"MirrorDrillModel", "must", "(Z)V"⟩, 80) := ⟨⟨by decide +kernel, by decide +kernel⟩, List.mem_of_getElem? (i := 1292) (by decide +kernel), List.mem_of_getElem? (i := 1671) (by decide +kernel), List.mem_of_getElem? (i := 1672) (by decide +kernel)⟩
theorem lw_p95 : lw_okq (⟨"MirrorDrillModel", "readMan", "()V"⟩, 80) := ⟨⟨by decide +kernel, by decide +kernel⟩, List.mem_of_getElem? (i := 1292) (by decide +kernel), List.mem_of_getElem? (i := 1675) (by decide +kernel), List.mem_of_getElem? (i := 1676) (by decide +kernel)⟩
def lw_privs_6 : List (MethodName × Nat) := [(⟨"MirrorDrillModel", "misplaced", "()V"⟩, 80), (⟨"MirrorDrillModel", "fails", "(II)V"⟩, 80), (⟨"MirrorDrillModel", "numeral", "(II)I"⟩, 80), (⟨"MirrorDrillModel", "readRule", "()V"⟩, 80), (⟨"MirrorDrillModel", "ruleHere", "()I"⟩, 80), (⟨"MirrorDrillModel", "e", "()V"⟩, 80), (⟨"MirrorDrillModel", "pushE", "(II)V"⟩, 80), (⟨"MirrorDrillModel", "unit", "()Z"⟩, 80), (⟨"MirrorDrillModel", "isSignHere", "(I)Z"⟩, 80), (⟨"MirrorDrillModel", "wordHere", "()I"⟩, 80), (⟨"MirrorDrillModel", "emit", "(II)V"⟩, 80), (⟨"MirrorDrillModel", "behindUnit", "()Z"⟩, 80), (⟨"MirrorDrillModel", "rankHere", "()I"⟩, 80), (⟨"MirrorDrillModel", "isCompared", "()Z"⟩, 80), (⟨"MirrorDrillModel", "must", "(Z)V"⟩, 80), (⟨"MirrorDrillModel", "readMan", "()V"⟩, 80)]
theorem lw_r6 : ∀ q ∈ lw_privs_6, lw_okq q := List.forall_mem_cons.mpr ⟨lw_p80, List.forall_mem_cons.mpr ⟨lw_p81, List.forall_mem_cons.mpr ⟨lw_p82, List.forall_mem_cons.mpr ⟨lw_p83, List.forall_mem_cons.mpr ⟨lw_p84, List.forall_mem_cons.mpr ⟨lw_p85, List.forall_mem_cons.mpr ⟨lw_p86, List.forall_mem_cons.mpr ⟨lw_p87, List.forall_mem_cons.mpr ⟨lw_p88, List.forall_mem_cons.mpr ⟨lw_p89, List.forall_mem_cons.mpr ⟨lw_p90, List.forall_mem_cons.mpr ⟨lw_p91, List.forall_mem_cons.mpr ⟨lw_p92, List.forall_mem_cons.mpr ⟨lw_p93, List.forall_mem_cons.mpr ⟨lw_p94, List.forall_mem_cons.mpr ⟨lw_p95, fun _ h => absurd h List.not_mem_nil⟩⟩⟩⟩⟩⟩⟩⟩⟩⟩⟩⟩⟩⟩⟩⟩
theorem lw_p96 : lw_okq (⟨"MirrorDrillModel", "readBy", "(I)V"⟩, 80) := ⟨⟨by decide +kernel, by decide +kernel⟩, List.mem_of_getElem? (i := 1292) (by decide +kernel), List.mem_of_getElem? (i := 1679) (by decide +kernel), List.mem_of_getElem? (i := 1680) (by decide +kernel)⟩
theorem lw_p97 : lw_okq (⟨"MirrorDrillModel", "flag", "(J)Z"⟩, 80) := ⟨⟨by decide +kernel, by decide +kernel⟩, List.mem_of_getElem? (i := 1292) (by decide +kernel), List.mem_of_getElem? (i := 1683) (by decide +kernel), List.mem_of_getElem? (i := 1684) (by decide +kernel)⟩
theorem lw_p98 : lw_okq (⟨"MirrorDrillModel", "layTables", "()V"⟩, 80) := ⟨⟨by decide +kernel, by decide +kernel⟩, List.mem_of_getElem? (i := 1292) (by decide +kernel), List.mem_of_getElem? (i := 1687) (by decide +kernel), List.mem_of_getElem? (i := 1688) (by decide +kernel)⟩
theorem lw_p99 : lw_okq (⟨"MirrorDrillModel", "comes", "(IIII)I"⟩, 80) := ⟨⟨by decide +kernel, by decide +kernel⟩, List.mem_of_getElem? (i := 1292) (by decide +kernel), List.mem_of_getElem? (i := 1691) (by decide +kernel), List.mem_of_getElem? (i := 1692) (by decide +kernel)⟩
theorem lw_p100 : lw_okq (⟨"MirrorDrillModel", "isMan", "(I)Z"⟩, 80) := ⟨⟨by decide +kernel, by decide +kernel⟩, List.mem_of_getElem? (i := 1292) (by decide +kernel), List.mem_of_getElem? (i := 1706) (by decide +kernel), List.mem_of_getElem? (i := 1707) (by decide +kernel)⟩
theorem lw_p101 : lw_okq (⟨"MirrorDrillModel", "manyOf", "()I"⟩, 80) := ⟨⟨by decide +kernel, by decide +kernel⟩, List.mem_of_getElem? (i := 1292) (by decide +kernel), List.mem_of_getElem? (i := 1710) (by decide +kernel), List.mem_of_getElem? (i := 1711) (by decide +kernel)⟩
theorem lw_p102 : lw_okq (⟨"MirrorDrillModel", "isRule", "(I)Z"⟩, 80) := ⟨⟨by decide +kernel, by decide +kernel⟩, List.mem_of_getElem? (i := 1292) (by decide +kernel), List.mem_of_getElem? (i := 1721) (by decide +kernel), List.mem_of_getElem? (i := 1722) (by decide +kernel)⟩
theorem lw_p103 : lw_okq (⟨"MirrorDrillModel", "isMove", "(I)Z"⟩, 80) := ⟨⟨by decide +kernel, by decide +kernel⟩, List.mem_of_getElem? (i := 1292) (by decide +kernel), List.mem_of_getElem? (i := 1725) (by decide +kernel), List.mem_of_getElem? (i := 1726) (by decide +kernel)⟩
theorem lw_p104 : lw_okq (⟨"MirrorDrillModel", "makes", "(IIII)I"⟩, 80) := ⟨⟨by decide +kernel, by decide +kernel⟩, List.mem_of_getElem? (i := 1292) (by decide +kernel), List.mem_of_getElem? (i := 1729) (by decide +kernel), List.mem_of_getElem? (i := 1730) (by decide +kernel)⟩
theorem lw_p105 : lw_okq (⟨"MirrorDrillModel", "keepAct", "()V"⟩, 80) := ⟨⟨by decide +kernel, by decide +kernel⟩, List.mem_of_getElem? (i := 1292) (by decide +kernel), List.mem_of_getElem? (i := 1738) (by decide +kernel), List.mem_of_getElem? (i := 1739) (by decide +kernel)⟩
theorem lw_p106 : lw_okq (⟨"MirrorDrillModel", "layNow", "()V"⟩, 80) := ⟨⟨by decide +kernel, by decide +kernel⟩, List.mem_of_getElem? (i := 1292) (by decide +kernel), List.mem_of_getElem? (i := 1742) (by decide +kernel), List.mem_of_getElem? (i := 1743) (by decide +kernel)⟩
theorem lw_p107 : lw_okq (⟨"MirrorDrillModel", "beatTimes", "(I)V"⟩, 80) := ⟨⟨by decide +kernel, by decide +kernel⟩, List.mem_of_getElem? (i := 1292) (by decide +kernel), List.mem_of_getElem? (i := 1746) (by decide +kernel), List.mem_of_getElem? (i := 1747) (by decide +kernel)⟩
theorem lw_p108 : lw_okq (⟨"MirrorDrillModel", "beat", "()V"⟩, 80) := ⟨⟨by decide +kernel, by decide +kernel⟩, List.mem_of_getElem? (i := 1292) (by decide +kernel), List.mem_of_getElem? (i := 1750) (by decide +kernel), List.mem_of_getElem? (i := 1751) (by decide +kernel)⟩
theorem lw_p109 : lw_okq (⟨"MirrorDrillModel", "aheadOf", "(I)I"⟩, 80) := ⟨⟨by decide +kernel, by decide +kernel⟩, List.mem_of_getElem? (i := 1292) (by decide +kernel), List.mem_of_getElem? (i := 1754) (by decide +kernel), List.mem_of_getElem? (i := 1755) (by decide +kernel)⟩
theorem lw_p110 : lw_okq (⟨"MirrorDrillModel", "behindOf", "(I)I"⟩, 80) := ⟨⟨by decide +kernel, by decide +kernel⟩, List.mem_of_getElem? (i := 1292) (by decide +kernel), List.mem_of_getElem? (i := 1758) (by decide +kernel), List.mem_of_getElem? (i := 1759) (by decide +kernel)⟩
theorem lw_p111 : lw_okq (⟨"MirrorDrillModel", "after", "(IIII)I"⟩, 80) := ⟨⟨by decide +kernel, by decide +kernel⟩, List.mem_of_getElem? (i := 1292) (by decide +kernel), List.mem_of_getElem? (i := 1762) (by decide +kernel), List.mem_of_getElem? (i := 1763) (by decide +kernel)⟩
def lw_privs_7 : List (MethodName × Nat) := [(⟨"MirrorDrillModel", "readBy", "(I)V"⟩, 80), (⟨"MirrorDrillModel", "flag", "(J)Z"⟩, 80), (⟨"MirrorDrillModel", "layTables", "()V"⟩, 80), (⟨"MirrorDrillModel", "comes", "(IIII)I"⟩, 80), (⟨"MirrorDrillModel", "isMan", "(I)Z"⟩, 80), (⟨"MirrorDrillModel", "manyOf", "()I"⟩, 80), (⟨"MirrorDrillModel", "isRule", "(I)Z"⟩, 80), (⟨"MirrorDrillModel", "isMove", "(I)Z"⟩, 80), (⟨"MirrorDrillModel", "makes", "(IIII)I"⟩, 80), (⟨"MirrorDrillModel", "keepAct", "()V"⟩, 80), (⟨"MirrorDrillModel", "layNow", "()V"⟩, 80), (⟨"MirrorDrillModel", "beatTimes", "(I)V"⟩, 80), (⟨"MirrorDrillModel", "beat", "()V"⟩, 80), (⟨"MirrorDrillModel", "aheadOf", "(I)I"⟩, 80), (⟨"MirrorDrillModel", "behindOf", "(I)I"⟩, 80), (⟨"MirrorDrillModel", "after", "(IIII)I"⟩, 80)]
theorem lw_r7 : ∀ q ∈ lw_privs_7, lw_okq q := List.forall_mem_cons.mpr ⟨lw_p96, List.forall_mem_cons.mpr ⟨lw_p97, List.forall_mem_cons.mpr ⟨lw_p98, List.forall_mem_cons.mpr ⟨lw_p99, List.forall_mem_cons.mpr ⟨lw_p100, List.forall_mem_cons.mpr ⟨lw_p101, List.forall_mem_cons.mpr ⟨lw_p102, List.forall_mem_cons.mpr ⟨lw_p103, List.forall_mem_cons.mpr ⟨lw_p104, List.forall_mem_cons.mpr ⟨lw_p105, List.forall_mem_cons.mpr ⟨lw_p106, List.forall_mem_cons.mpr ⟨lw_p107, List.forall_mem_cons.mpr ⟨lw_p108, List.forall_mem_cons.mpr ⟨lw_p109, List.forall_mem_cons.mpr ⟨lw_p110, List.forall_mem_cons.mpr ⟨lw_p111, fun _ h => absurd h List.not_mem_nil⟩⟩⟩⟩⟩⟩⟩⟩⟩⟩⟩⟩⟩⟩⟩⟩
theorem lw_p112 : lw_okq (⟨"MirrorDrillModel", "stays", "(I)Z"⟩, 80) := ⟨⟨by decide +kernel, by decide +kernel⟩, List.mem_of_getElem? (i := 1292) (by decide +kernel), List.mem_of_getElem? (i := 1766) (by decide +kernel), List.mem_of_getElem? (i := 1767) (by decide +kernel)⟩
theorem lw_p113 : lw_okq (⟨"MirrorDrillModel", "windowOf", "(I)I"⟩, 80) := ⟨⟨by decide +kernel, by decide +kernel⟩, List.mem_of_getElem? (i := 1292) (by decide +kernel), List.mem_of_getElem? (i := 1770) (by decide +kernel), List.mem_of_getElem? (i := 1771) (by decide +kernel)⟩
theorem lw_p114 : lw_okq (⟨"MirrorDrillModel", "exchange", "()V"⟩, 80) := ⟨⟨by decide +kernel, by decide +kernel⟩, List.mem_of_getElem? (i := 1292) (by decide +kernel), List.mem_of_getElem? (i := 1782) (by decide +kernel), List.mem_of_getElem? (i := 1783) (by decide +kernel)⟩
theorem lw_p115 : lw_okq (⟨"MirrorDrillModel", "layRound", "()Z"⟩, 80) := ⟨⟨by decide +kernel, by decide +kernel⟩, List.mem_of_getElem? (i := 1292) (by decide +kernel), List.mem_of_getElem? (i := 1798) (by decide +kernel), List.mem_of_getElem? (i := 1799) (by decide +kernel)⟩
theorem lw_p116 : lw_okq (⟨"MirrorDrillModel", "rowNumber", "()J"⟩, 80) := ⟨⟨by decide +kernel, by decide +kernel⟩, List.mem_of_getElem? (i := 1292) (by decide +kernel), List.mem_of_getElem? (i := 1802) (by decide +kernel), List.mem_of_getElem? (i := 1803) (by decide +kernel)⟩
theorem lw_p117 : lw_okq (⟨"MirrorDrillModel", "countAhead", "()J"⟩, 80) := ⟨⟨by decide +kernel, by decide +kernel⟩, List.mem_of_getElem? (i := 1292) (by decide +kernel), List.mem_of_getElem? (i := 1810) (by decide +kernel), List.mem_of_getElem? (i := 1811) (by decide +kernel)⟩
theorem lw_p118 : lw_okq (⟨"MirrorDrillModel", "mayDo", "(II)Z"⟩, 80) := ⟨⟨by decide +kernel, by decide +kernel⟩, List.mem_of_getElem? (i := 1292) (by decide +kernel), List.mem_of_getElem? (i := 1814) (by decide +kernel), List.mem_of_getElem? (i := 1815) (by decide +kernel)⟩
theorem lw_p119 : lw_okq (⟨"MirrorDrillModel", "countFrom", "(II)J"⟩, 80) := ⟨⟨by decide +kernel, by decide +kernel⟩, List.mem_of_getElem? (i := 1292) (by decide +kernel), List.mem_of_getElem? (i := 1818) (by decide +kernel), List.mem_of_getElem? (i := 1819) (by decide +kernel)⟩
theorem lw_p120 : lw_okq (⟨"MirrorDrillModel", "allPairs", "()I"⟩, 80) := ⟨⟨by decide +kernel, by decide +kernel⟩, List.mem_of_getElem? (i := 1292) (by decide +kernel), List.mem_of_getElem? (i := 1830) (by decide +kernel), List.mem_of_getElem? (i := 1831) (by decide +kernel)⟩
theorem lw_p121 : lw_okq (⟨"MirrorDrillModel", "stepSet", "(III)I"⟩, 80) := ⟨⟨by decide +kernel, by decide +kernel⟩, List.mem_of_getElem? (i := 1292) (by decide +kernel), List.mem_of_getElem? (i := 1834) (by decide +kernel), List.mem_of_getElem? (i := 1835) (by decide +kernel)⟩
theorem lw_p122 : lw_okq (⟨"MirrorDrillModel", "layOrphan", "()I"⟩, 80) := ⟨⟨by decide +kernel, by decide +kernel⟩, List.mem_of_getElem? (i := 1292) (by decide +kernel), List.mem_of_getElem? (i := 1838) (by decide +kernel), List.mem_of_getElem? (i := 1839) (by decide +kernel)⟩
theorem lw_p123 : lw_okq (⟨"MirrorDrillModel", "isPair", "(I)Z"⟩, 80) := ⟨⟨by decide +kernel, by decide +kernel⟩, List.mem_of_getElem? (i := 1292) (by decide +kernel), List.mem_of_getElem? (i := 1846) (by decide +kernel), List.mem_of_getElem? (i := 1847) (by decide +kernel)⟩
theorem lw_p124 : lw_okq (⟨"MirrorDrillModel", "hasNext", "(IIZ)Z"⟩, 80) := ⟨⟨by decide +kernel, by decide +kernel⟩, List.mem_of_getElem? (i := 1292) (by decide +kernel), List.mem_of_getElem? (i := 1850) (by decide +kernel), List.mem_of_getElem? (i := 1851) (by decide +kernel)⟩
theorem lw_p125 : lw_okq (⟨"MirrorDrillModel", "leads", "(III)Z"⟩, 80) := ⟨⟨by decide +kernel, by decide +kernel⟩, List.mem_of_getElem? (i := 1292) (by decide +kernel), List.mem_of_getElem? (i := 1854) (by decide +kernel), List.mem_of_getElem? (i := 1855) (by decide +kernel)⟩
theorem lw_p126 : lw_okq (⟨"MirrorDrillModel", "isSame", "(III)Z"⟩, 80) := ⟨⟨by decide +kernel, by decide +kernel⟩, List.mem_of_getElem? (i := 1292) (by decide +kernel), List.mem_of_getElem? (i := 1862) (by decide +kernel), List.mem_of_getElem? (i := 1863) (by decide +kernel)⟩
theorem lw_p127 : lw_okq (⟨"MirrorDrillModel", "otherMove", "(II)I"⟩, 80) := ⟨⟨by decide +kernel, by decide +kernel⟩, List.mem_of_getElem? (i := 1292) (by decide +kernel), List.mem_of_getElem? (i := 1874) (by decide +kernel), List.mem_of_getElem? (i := 1875) (by decide +kernel)⟩
def lw_privs_8 : List (MethodName × Nat) := [(⟨"MirrorDrillModel", "stays", "(I)Z"⟩, 80), (⟨"MirrorDrillModel", "windowOf", "(I)I"⟩, 80), (⟨"MirrorDrillModel", "exchange", "()V"⟩, 80), (⟨"MirrorDrillModel", "layRound", "()Z"⟩, 80), (⟨"MirrorDrillModel", "rowNumber", "()J"⟩, 80), (⟨"MirrorDrillModel", "countAhead", "()J"⟩, 80), (⟨"MirrorDrillModel", "mayDo", "(II)Z"⟩, 80), (⟨"MirrorDrillModel", "countFrom", "(II)J"⟩, 80), (⟨"MirrorDrillModel", "allPairs", "()I"⟩, 80), (⟨"MirrorDrillModel", "stepSet", "(III)I"⟩, 80), (⟨"MirrorDrillModel", "layOrphan", "()I"⟩, 80), (⟨"MirrorDrillModel", "isPair", "(I)Z"⟩, 80), (⟨"MirrorDrillModel", "hasNext", "(IIZ)Z"⟩, 80), (⟨"MirrorDrillModel", "leads", "(III)Z"⟩, 80), (⟨"MirrorDrillModel", "isSame", "(III)Z"⟩, 80), (⟨"MirrorDrillModel", "otherMove", "(II)I"⟩, 80)]
theorem lw_r8 : ∀ q ∈ lw_privs_8, lw_okq q := List.forall_mem_cons.mpr ⟨lw_p112, List.forall_mem_cons.mpr ⟨lw_p113, List.forall_mem_cons.mpr ⟨lw_p114, List.forall_mem_cons.mpr ⟨lw_p115, List.forall_mem_cons.mpr ⟨lw_p116, List.forall_mem_cons.mpr ⟨lw_p117, List.forall_mem_cons.mpr ⟨lw_p118, List.forall_mem_cons.mpr ⟨lw_p119, List.forall_mem_cons.mpr ⟨lw_p120, List.forall_mem_cons.mpr ⟨lw_p121, List.forall_mem_cons.mpr ⟨lw_p122, List.forall_mem_cons.mpr ⟨lw_p123, List.forall_mem_cons.mpr ⟨lw_p124, List.forall_mem_cons.mpr ⟨lw_p125, List.forall_mem_cons.mpr ⟨lw_p126, List.forall_mem_cons.mpr ⟨lw_p127, fun _ h => absurd h List.not_mem_nil⟩⟩⟩⟩⟩⟩⟩⟩⟩⟩⟩⟩⟩⟩⟩⟩
theorem lw_p128 : lw_okq (⟨"MirrorDrillModel", "isSoBy", "(IIII)Z"⟩, 80) := ⟨⟨by decide +kernel, by decide +kernel⟩, List.mem_of_getElem? (i := 1292) (by decide +kernel), List.mem_of_getElem? (i := 1878) (by decide +kernel), List.mem_of_getElem? (i := 1879) (by decide +kernel)⟩
theorem lw_p129 : lw_okq (⟨"MirrorDrillModel", "layGlint", "(I)I"⟩, 80) := ⟨⟨by decide +kernel, by decide +kernel⟩, List.mem_of_getElem? (i := 1292) (by decide +kernel), List.mem_of_getElem? (i := 1882) (by decide +kernel), List.mem_of_getElem? (i := 1883) (by decide +kernel)⟩
theorem lw_p130 : lw_okq (⟨"MirrorDrillModel", "nextMoves", "(I)Z"⟩, 80) := ⟨⟨by decide +kernel, by decide +kernel⟩, List.mem_of_getElem? (i := 1292) (by decide +kernel), List.mem_of_getElem? (i := 1886) (by decide +kernel), List.mem_of_getElem? (i := 1887) (by decide +kernel)⟩
theorem lw_p131 : lw_okq (⟨"MirrorDrillModel", "nextMen", "(I)Z"⟩, 80) := ⟨⟨by decide +kernel, by decide +kernel⟩, List.mem_of_getElem? (i := 1292) (by decide +kernel), List.mem_of_getElem? (i := 1890) (by decide +kernel), List.mem_of_getElem? (i := 1891) (by decide +kernel)⟩
theorem lw_p132 : lw_okq (⟨"MirrorDrillModel", "layCracks", "(I)I"⟩, 80) := ⟨⟨by decide +kernel, by decide +kernel⟩, List.mem_of_getElem? (i := 1292) (by decide +kernel), List.mem_of_getElem? (i := 1898) (by decide +kernel), List.mem_of_getElem? (i := 1899) (by decide +kernel)⟩
theorem lw_p133 : lw_okq (⟨"MirrorDrillModel", "orphanAt", "(I)I"⟩, 80) := ⟨⟨by decide +kernel, by decide +kernel⟩, List.mem_of_getElem? (i := 1292) (by decide +kernel), List.mem_of_getElem? (i := 1906) (by decide +kernel), List.mem_of_getElem? (i := 1907) (by decide +kernel)⟩
theorem lw_p134 : lw_okq (⟨"MirrorDrillModel", "layCase", "(I)V"⟩, 80) := ⟨⟨by decide +kernel, by decide +kernel⟩, List.mem_of_getElem? (i := 1292) (by decide +kernel), List.mem_of_getElem? (i := 1933) (by decide +kernel), List.mem_of_getElem? (i := 1934) (by decide +kernel)⟩
theorem lw_p135 : lw_okq (⟨"MirrorDrillModel", "areSo", "(I)Z"⟩, 80) := ⟨⟨by decide +kernel, by decide +kernel⟩, List.mem_of_getElem? (i := 1292) (by decide +kernel), List.mem_of_getElem? (i := 1937) (by decide +kernel), List.mem_of_getElem? (i := 1938) (by decide +kernel)⟩
theorem lw_p136 : lw_okq (⟨"MirrorDrillModel", "isCase", "(I)Z"⟩, 80) := ⟨⟨by decide +kernel, by decide +kernel⟩, List.mem_of_getElem? (i := 1292) (by decide +kernel), List.mem_of_getElem? (i := 1950) (by decide +kernel), List.mem_of_getElem? (i := 1951) (by decide +kernel)⟩
theorem lw_p137 : lw_okq (⟨"MirrorDrillModel", "canCrack", "(II)Z"⟩, 80) := ⟨⟨by decide +kernel, by decide +kernel⟩, List.mem_of_getElem? (i := 1292) (by decide +kernel), List.mem_of_getElem? (i := 1954) (by decide +kernel), List.mem_of_getElem? (i := 1955) (by decide +kernel)⟩
theorem lw_p138 : lw_okq (⟨"MirrorDrillModel", "canSee", "(II)Z"⟩, 80) := ⟨⟨by decide +kernel, by decide +kernel⟩, List.mem_of_getElem? (i := 1292) (by decide +kernel), List.mem_of_getElem? (i := 1958) (by decide +kernel), List.mem_of_getElem? (i := 1959) (by decide +kernel)⟩
def lw_privs_9 : List (MethodName × Nat) := [(⟨"MirrorDrillModel", "isSoBy", "(IIII)Z"⟩, 80), (⟨"MirrorDrillModel", "layGlint", "(I)I"⟩, 80), (⟨"MirrorDrillModel", "nextMoves", "(I)Z"⟩, 80), (⟨"MirrorDrillModel", "nextMen", "(I)Z"⟩, 80), (⟨"MirrorDrillModel", "layCracks", "(I)I"⟩, 80), (⟨"MirrorDrillModel", "orphanAt", "(I)I"⟩, 80), (⟨"MirrorDrillModel", "layCase", "(I)V"⟩, 80), (⟨"MirrorDrillModel", "areSo", "(I)Z"⟩, 80), (⟨"MirrorDrillModel", "isCase", "(I)Z"⟩, 80), (⟨"MirrorDrillModel", "canCrack", "(II)Z"⟩, 80), (⟨"MirrorDrillModel", "canSee", "(II)Z"⟩, 80)]
theorem lw_r9 : ∀ q ∈ lw_privs_9, lw_okq q := List.forall_mem_cons.mpr ⟨lw_p128, List.forall_mem_cons.mpr ⟨lw_p129, List.forall_mem_cons.mpr ⟨lw_p130, List.forall_mem_cons.mpr ⟨lw_p131, List.forall_mem_cons.mpr ⟨lw_p132, List.forall_mem_cons.mpr ⟨lw_p133, List.forall_mem_cons.mpr ⟨lw_p134, List.forall_mem_cons.mpr ⟨lw_p135, List.forall_mem_cons.mpr ⟨lw_p136, List.forall_mem_cons.mpr ⟨lw_p137, List.forall_mem_cons.mpr ⟨lw_p138, fun _ h => absurd h List.not_mem_nil⟩⟩⟩⟩⟩⟩⟩⟩⟩⟩⟩
def lw_privs : List (MethodName × Nat) := lw_privs_1 ++ (lw_privs_2 ++ (lw_privs_3 ++ (lw_privs_4 ++ (lw_privs_5 ++ (lw_privs_6 ++ (lw_privs_7 ++ (lw_privs_8 ++ (lw_privs_9))))))))
def lw_tbl : List Cond := k2_sels lw_privs ++ tables_1
theorem lw_privs_ok : ∀ q ∈ lw_privs, lw_okq q := by
  show ∀ q ∈ lw_privs_1 ++ (lw_privs_2 ++ (lw_privs_3 ++ (lw_privs_4 ++ (lw_privs_5 ++ (lw_privs_6 ++ (lw_privs_7 ++ (lw_privs_8 ++ (lw_privs_9)))))))), lw_okq q
  exact List.forall_mem_append.mpr ⟨lw_r1, List.forall_mem_append.mpr ⟨lw_r2, List.forall_mem_append.mpr ⟨lw_r3, List.forall_mem_append.mpr ⟨lw_r4, List.forall_mem_append.mpr ⟨lw_r5, List.forall_mem_append.mpr ⟨lw_r6, List.forall_mem_append.mpr ⟨lw_r7, List.forall_mem_append.mpr ⟨lw_r8, lw_r9⟩⟩⟩⟩⟩⟩⟩⟩
end
section
def RX0 : String := "MirrorDrill$Changes"
def TX0 : u_T := fun k => match k with
  | 0 => ("MirrorDrill$Changes", "drill", "LMirrorDrill$Drill;", false)
  | 1 => ("MirrorDrill$Changes", "start", "J", false)
  | 2 => ("MirrorDrill$Changes", "target", "I", false)
  | 3 => ("MirrorDrill$Changes", "wanted", "I", false)
  | 4 => ("MirrorDrill$Changes", "beats", "I", false)
  | 5 => ("MirrorDrill$Changes", "plain", "[J", true)
  | 6 => ("MirrorDrill$Changes", "size", "I", false)
  | 7 => ("MirrorDrill$Changes", "men", "[I", true)
  | _ => ("MirrorDrill$Changes", "moves", "[I", true)
def tyX0 : Nat → FieldType := fun k => match k with
  | 0 => .object "MirrorDrill$Drill"
  | 1 => .long
  | 2 => .int
  | 3 => .int
  | 4 => .int
  | 5 => .array .long
  | 6 => .int
  | 7 => .array .int
  | _ => .array .int
abbrev wsX00 : List Cond := u_ws RX0 TX0 9
theorem nmX0 : ∀ a, a < 9 → ∀ b, b < 9 → a ≠ b → (TX0 a).2.1 ≠ (TX0 b).2.1 := by decide +kernel
theorem tyX0_ok : ∀ k, k < 9 → parseFieldDescriptor (TX0 k).2.2.1 = some (tyX0 k) := by decide +kernel
abbrev cX0_init : ByteArray := prog_2_method_1_code
def yX0_init : MethodName := ⟨RX0, "<init>", "()V"⟩
abbrev cX0_aim : ByteArray := prog_2_method_2_code
def yX0_aim : MethodName := ⟨RX0, "aim", "(LMirrorDrill$Drill;JIII)V"⟩
abbrev cX0_isSoAnyway : ByteArray := prog_2_method_3_code
def yX0_isSoAnyway : MethodName := ⟨RX0, "isSoAnyway", "()Z"⟩
abbrev cX0_fewestOrdered : ByteArray := prog_2_method_4_code
def yX0_fewestOrdered : MethodName := ⟨RX0, "fewestOrdered", "(LMirrorDrill$Pile;)I"⟩
abbrev cX0_layMen : ByteArray := prog_2_method_5_code
def yX0_layMen : MethodName := ⟨RX0, "layMen", "(LMirrorDrill$Pile;)V"⟩
abbrev cX0_orderMen : ByteArray := prog_2_method_6_code
def yX0_orderMen : MethodName := ⟨RX0, "orderMen", "(II)Z"⟩
abbrev cX0_orderMoves : ByteArray := prog_2_method_7_code
def yX0_orderMoves : MethodName := ⟨RX0, "orderMoves", "(IJ)Z"⟩
abbrev cX0_comesTrue : ByteArray := prog_2_method_8_code
def yX0_comesTrue : MethodName := ⟨RX0, "comesTrue", "(J)Z"⟩
abbrev cX0_fewestCracked : ByteArray := prog_2_method_9_code
def yX0_fewestCracked : MethodName := ⟨RX0, "fewestCracked", "(LMirrorDrill$Pile;)I"⟩
abbrev cX0_crackMen : ByteArray := prog_2_method_10_code
def yX0_crackMen : MethodName := ⟨RX0, "crackMen", "(IIJ)Z"⟩
abbrev cX0_comesTrueCracked : ByteArray := prog_2_method_11_code
def yX0_comesTrueCracked : MethodName := ⟨RX0, "comesTrueCracked", "(J)Z"⟩
def RX1 : String := "MirrorDrill$Course"
def TX1 : u_T := fun k => match k with
  | 0 => ("MirrorDrill$Course", "rows", "[J", false)
  | 1 => ("MirrorDrill$Course", "known", "Z", false)
  | 2 => ("MirrorDrill$Course", "knownRow", "J", false)
  | 3 => ("MirrorDrill$Course", "tail", "I", false)
  | _ => ("MirrorDrill$Course", "loop", "I", false)
def tyX1 : Nat → FieldType := fun k => match k with
  | 0 => .array .long
  | 1 => .boolean
  | 2 => .long
  | 3 => .int
  | _ => .int
abbrev wsX10 : List Cond := u_ws RX1 TX1 5
theorem nmX1 : ∀ a, a < 5 → ∀ b, b < 5 → a ≠ b → (TX1 a).2.1 ≠ (TX1 b).2.1 := by decide +kernel
theorem tyX1_ok : ∀ k, k < 5 → parseFieldDescriptor (TX1 k).2.2.1 = some (tyX1 k) := by decide +kernel
abbrev cX1_init : ByteArray := prog_3_method_1_code
def yX1_init : MethodName := ⟨RX1, "<init>", "()V"⟩
abbrev cX1_forget : ByteArray := prog_3_method_2_code
def yX1_forget : MethodName := ⟨RX1, "forget", "()V"⟩
abbrev cX1_tail : ByteArray := prog_3_method_3_code
def yX1_tail : MethodName := ⟨RX1, "tail", "()I"⟩
abbrev cX1_loop : ByteArray := prog_3_method_4_code
def yX1_loop : MethodName := ⟨RX1, "loop", "()I"⟩
abbrev cX1_comesRound : ByteArray := prog_3_method_5_code
def yX1_comesRound : MethodName := ⟨RX1, "comesRound", "(LMirrorDrill$Drill;J)Z"⟩
abbrev cX1_follow : ByteArray := prog_3_method_6_code
def yX1_follow : MethodName := ⟨RX1, "follow", "(LMirrorDrill$Drill;J)V"⟩
abbrev cX1_findLoop : ByteArray := prog_3_method_7_code
def yX1_findLoop : MethodName := ⟨RX1, "findLoop", "(LMirrorDrill$Drill;J)I"⟩
def RX2 : String := "MirrorDrill$Drill"
def TX2 : u_T := fun k => match k with
  | 0 => ("MirrorDrill$Drill", "moves", "I", false)
  | 1 => ("MirrorDrill$Drill", "men", "I", false)
  | 2 => ("MirrorDrill$Drill", "rules", "I", false)
  | 3 => ("MirrorDrill$Drill", "units", "I", false)
  | 4 => ("MirrorDrill$Drill", "edge", "I", false)
  | 5 => ("MirrorDrill$Drill", "ring", "Z", false)
  | 6 => ("MirrorDrill$Drill", "turned", "I", false)
  | 7 => ("MirrorDrill$Drill", "cracked", "I", false)
  | 8 => ("MirrorDrill$Drill", "first", "J", false)
  | 9 => ("MirrorDrill$Drill", "ruleOf", "[I", true)
  | 10 => ("MirrorDrill$Drill", "windows", "[I", true)
  | 11 => ("MirrorDrill$Drill", "worths", "[I", true)
  | 12 => ("MirrorDrill$Drill", "table", "[B", true)
  | 13 => ("MirrorDrill$Drill", "steps", "[B", false)
  | _ => ("MirrorDrill$Drill", "pairSteps", "[B", false)
def tyX2 : Nat → FieldType := fun k => match k with
  | 0 => .int
  | 1 => .int
  | 2 => .int
  | 3 => .int
  | 4 => .int
  | 5 => .boolean
  | 6 => .int
  | 7 => .int
  | 8 => .long
  | 9 => .array .int
  | 10 => .array .int
  | 11 => .array .int
  | 12 => .array .byte
  | 13 => .array .byte
  | _ => .array .byte
abbrev wsX20 : List Cond := u_ws RX2 TX2 15
theorem nmX2 : ∀ a, a < 15 → ∀ b, b < 15 → a ≠ b → (TX2 a).2.1 ≠ (TX2 b).2.1 := by decide +kernel
theorem tyX2_ok : ∀ k, k < 15 → parseFieldDescriptor (TX2 k).2.2.1 = some (tyX2 k) := by decide +kernel
abbrev cX2_init : ByteArray := prog_4_method_1_code
def yX2_init : MethodName := ⟨RX2, "<init>", "()V"⟩
abbrev cX2_clear : ByteArray := prog_4_method_2_code
def yX2_clear : MethodName := ⟨RX2, "clear", "()V"⟩
abbrev cX2_isMan : ByteArray := prog_4_method_3_code
def yX2_isMan : MethodName := ⟨RX2, "isMan", "(I)Z"⟩
abbrev cX2_isMove : ByteArray := prog_4_method_4_code
def yX2_isMove : MethodName := ⟨RX2, "isMove", "(I)Z"⟩
abbrev cX2_isRule : ByteArray := prog_4_method_5_code
def yX2_isRule : MethodName := ⟨RX2, "isRule", "(I)Z"⟩
abbrev cX2_setMade : ByteArray := prog_4_method_6_code
def yX2_setMade : MethodName := ⟨RX2, "setMade", "(III)V"⟩
abbrev cX2_makes : ByteArray := prog_4_method_7_code
def yX2_makes : MethodName := ⟨RX2, "makes", "(II)I"⟩
abbrev cX2_settle : ByteArray := prog_4_method_8_code
def yX2_settle : MethodName := ⟨RX2, "settle", "()V"⟩
abbrev cX2_told : ByteArray := prog_4_method_9_code
def yX2_told : MethodName := ⟨RX2, "told", "(IIII)I"⟩
abbrev cX2_throughWindow : ByteArray := prog_4_method_10_code
def yX2_throughWindow : MethodName := ⟨RX2, "throughWindow", "(III)I"⟩
abbrev cX2_stays : ByteArray := prog_4_method_11_code
def yX2_stays : MethodName := ⟨RX2, "stays", "(I)Z"⟩
abbrev cX2_isCracked : ByteArray := prog_4_method_12_code
def yX2_isCracked : MethodName := ⟨RX2, "isCracked", "(I)Z"⟩
abbrev cX2_widened : ByteArray := prog_4_method_13_code
def yX2_widened : MethodName := ⟨RX2, "widened", "(J)J"⟩
abbrev cX2_doesBy : ByteArray := prog_4_method_14_code
def yX2_doesBy : MethodName := ⟨RX2, "doesBy", "(II)I"⟩
abbrev cX2_stepsOf : ByteArray := prog_4_method_15_code
def yX2_stepsOf : MethodName := ⟨RX2, "stepsOf", "(JII)J"⟩
abbrev cX2_after : ByteArray := prog_4_method_16_code
def yX2_after : MethodName := ⟨RX2, "after", "(J)J"⟩
abbrev cX2_afterNear : ByteArray := prog_4_method_17_code
def yX2_afterNear : MethodName := ⟨RX2, "afterNear", "(JII)J"⟩
abbrev cX2_isNear : ByteArray := prog_4_method_18_code
def yX2_isNear : MethodName := ⟨RX2, "isNear", "(III)Z"⟩
abbrev cX2_afterBeats : ByteArray := prog_4_method_19_code
def yX2_afterBeats : MethodName := ⟨RX2, "afterBeats", "(JI)J"⟩
abbrev cX2_worthOf : ByteArray := prog_4_method_20_code
def yX2_worthOf : MethodName := ⟨RX2, "worthOf", "(J)I"⟩
def RX3 : String := "MirrorDrill$Earnest"
def TX3 : u_T := fun k => match k with
  | 0 => ("MirrorDrill$Earnest", "rows", "[J", true)
  | 1 => ("MirrorDrill$Earnest", "beatsThen", "[I", true)
  | 2 => ("MirrorDrill$Earnest", "now", "I", false)
  | _ => ("MirrorDrill$Earnest", "last", "I", false)
def tyX3 : Nat → FieldType := fun k => match k with
  | 0 => .array .long
  | 1 => .array .int
  | 2 => .int
  | _ => .int
abbrev wsX30 : List Cond := u_ws RX3 TX3 4
theorem nmX3 : ∀ a, a < 4 → ∀ b, b < 4 → a ≠ b → (TX3 a).2.1 ≠ (TX3 b).2.1 := by decide +kernel
theorem tyX3_ok : ∀ k, k < 4 → parseFieldDescriptor (TX3 k).2.2.1 = some (tyX3 k) := by decide +kernel
abbrev cX3_init : ByteArray := prog_5_method_1_code
def yX3_init : MethodName := ⟨RX3, "<init>", "()V"⟩
abbrev cX3_begin : ByteArray := prog_5_method_2_code
def yX3_begin : MethodName := ⟨RX3, "begin", "(JI)V"⟩
abbrev cX3_row : ByteArray := prog_5_method_3_code
def yX3_row : MethodName := ⟨RX3, "row", "()J"⟩
abbrev cX3_beats : ByteArray := prog_5_method_4_code
def yX3_beats : MethodName := ⟨RX3, "beats", "()I"⟩
abbrev cX3_act : ByteArray := prog_5_method_5_code
def yX3_act : MethodName := ⟨RX3, "act", "(JI)V"⟩
abbrev cX3_takeBack : ByteArray := prog_5_method_6_code
def yX3_takeBack : MethodName := ⟨RX3, "takeBack", "()Z"⟩
abbrev cX3_doAgain : ByteArray := prog_5_method_7_code
def yX3_doAgain : MethodName := ⟨RX3, "doAgain", "()Z"⟩
abbrev cX3_actsDone : ByteArray := prog_5_method_8_code
def yX3_actsDone : MethodName := ⟨RX3, "actsDone", "()I"⟩
abbrev cX3_actsTakenBack : ByteArray := prog_5_method_9_code
def yX3_actsTakenBack : MethodName := ⟨RX3, "actsTakenBack", "()I"⟩
def RX4 : String := "MirrorDrill$Endless"
def TX4 : u_T := fun k => match k with
  | 0 => ("MirrorDrill$Endless", "drill", "LMirrorDrill$Drill;", false)
  | 1 => ("MirrorDrill$Endless", "rule", "I", false)
  | 2 => ("MirrorDrill$Endless", "moves", "I", false)
  | 3 => ("MirrorDrill$Endless", "pairs", "I", false)
  | 4 => ("MirrorDrill$Endless", "leads", "[J", true)
  | 5 => ("MirrorDrill$Endless", "queue", "[I", false)
  | 6 => ("MirrorDrill$Endless", "queued", "I", false)
  | 7 => ("MirrorDrill$Endless", "met", "[I", false)
  | 8 => ("MirrorDrill$Endless", "alike", "[I", true)
  | _ => ("MirrorDrill$Endless", "gains", "[I", true)
def tyX4 : Nat → FieldType := fun k => match k with
  | 0 => .object "MirrorDrill$Drill"
  | 1 => .int
  | 2 => .int
  | 3 => .int
  | 4 => .array .long
  | 5 => .array .int
  | 6 => .int
  | 7 => .array .int
  | 8 => .array .int
  | _ => .array .int
abbrev wsX40 : List Cond := u_ws RX4 TX4 10
theorem nmX4 : ∀ a, a < 10 → ∀ b, b < 10 → a ≠ b → (TX4 a).2.1 ≠ (TX4 b).2.1 := by decide +kernel
theorem tyX4_ok : ∀ k, k < 10 → parseFieldDescriptor (TX4 k).2.2.1 = some (tyX4 k) := by decide +kernel
abbrev cX4_init : ByteArray := prog_6_method_1_code
def yX4_init : MethodName := ⟨RX4, "<init>", "()V"⟩
abbrev cX4_take : ByteArray := prog_6_method_2_code
def yX4_take : MethodName := ⟨RX4, "take", "(LMirrorDrill$Drill;I)V"⟩
abbrev cX4_makes : ByteArray := prog_6_method_3_code
def yX4_makes : MethodName := ⟨RX4, "makes", "(III)I"⟩
abbrev cX4_leftOf : ByteArray := prog_6_method_4_code
def yX4_leftOf : MethodName := ⟨RX4, "leftOf", "(I)I"⟩
abbrev cX4_ownOf : ByteArray := prog_6_method_5_code
def yX4_ownOf : MethodName := ⟨RX4, "ownOf", "(I)I"⟩
abbrev cX4_shortestUnmade : ByteArray := prog_6_method_6_code
def yX4_shortestUnmade : MethodName := ⟨RX4, "shortestUnmade", "(LMirrorDrill$Drill;ILMirrorDrill$Pile;)I"⟩
abbrev cX4_layLeads : ByteArray := prog_6_method_7_code
def yX4_layLeads : MethodName := ⟨RX4, "layLeads", "()V"⟩
abbrev cX4_leadsOf : ByteArray := prog_6_method_8_code
def yX4_leadsOf : MethodName := ⟨RX4, "leadsOf", "(I)J"⟩
abbrev cX4_behind : ByteArray := prog_6_method_9_code
def yX4_behind : MethodName := ⟨RX4, "behind", "(I)J"⟩
abbrev cX4_beginQueue : ByteArray := prog_6_method_10_code
def yX4_beginQueue : MethodName := ⟨RX4, "beginQueue", "()V"⟩
abbrev cX4_enqueue : ByteArray := prog_6_method_11_code
def yX4_enqueue : MethodName := ⟨RX4, "enqueue", "(II)V"⟩
abbrev cX4_layWord : ByteArray := prog_6_method_12_code
def yX4_layWord : MethodName := ⟨RX4, "layWord", "(IILMirrorDrill$Pile;)I"⟩
abbrev cX4_moveBetween : ByteArray := prog_6_method_13_code
def yX4_moveBetween : MethodName := ⟨RX4, "moveBetween", "(II)I"⟩
abbrev cX4_isOneToOne : ByteArray := prog_6_method_14_code
def yX4_isOneToOne : MethodName := ⟨RX4, "isOneToOne", "(LMirrorDrill$Drill;I)Z"⟩
abbrev cX4_thinOut : ByteArray := prog_6_method_15_code
def yX4_thinOut : MethodName := ⟨RX4, "thinOut", "()Z"⟩
abbrev cX4_walkTogether : ByteArray := prog_6_method_16_code
def yX4_walkTogether : MethodName := ⟨RX4, "walkTogether", "(II)Z"⟩
abbrev cX4_goesOn : ByteArray := prog_6_method_17_code
def yX4_goesOn : MethodName := ⟨RX4, "goesOn", "(II)Z"⟩
abbrev cX4_cameFrom : ByteArray := prog_6_method_18_code
def yX4_cameFrom : MethodName := ⟨RX4, "cameFrom", "(II)Z"⟩
abbrev cX4_keepsWorth : ByteArray := prog_6_method_19_code
def yX4_keepsWorth : MethodName := ⟨RX4, "keepsWorth", "(LMirrorDrill$Drill;I)Z"⟩
abbrev cX4_isRing : ByteArray := prog_6_method_20_code
def yX4_isRing : MethodName := ⟨RX4, "isRing", "(II)Z"⟩
abbrev cX4_gainOf : ByteArray := prog_6_method_21_code
def yX4_gainOf : MethodName := ⟨RX4, "gainOf", "(II)I"⟩
def RX5 : String := "MirrorDrill$Forebears"
def TX5 : u_T := fun k => match k with
  | 0 => ("MirrorDrill$Forebears", "ways", "[J", false)
  | 1 => ("MirrorDrill$Forebears", "drill", "LMirrorDrill$Drill;", false)
  | 2 => ("MirrorDrill$Forebears", "goal", "J", false)
  | 3 => ("MirrorDrill$Forebears", "count", "J", false)
  | _ => ("MirrorDrill$Forebears", "firstKey", "J", false)
def tyX5 : Nat → FieldType := fun k => match k with
  | 0 => .array .long
  | 1 => .object "MirrorDrill$Drill"
  | 2 => .long
  | 3 => .long
  | _ => .long
abbrev wsX50 : List Cond := u_ws RX5 TX5 5
theorem nmX5 : ∀ a, a < 5 → ∀ b, b < 5 → a ≠ b → (TX5 a).2.1 ≠ (TX5 b).2.1 := by decide +kernel
theorem tyX5_ok : ∀ k, k < 5 → parseFieldDescriptor (TX5 k).2.2.1 = some (tyX5 k) := by decide +kernel
abbrev cX5_init : ByteArray := prog_7_method_1_code
def yX5_init : MethodName := ⟨RX5, "<init>", "()V"⟩
abbrev cX5_count : ByteArray := prog_7_method_2_code
def yX5_count : MethodName := ⟨RX5, "count", "()J"⟩
abbrev cX5_firstDoes : ByteArray := prog_7_method_3_code
def yX5_firstDoes : MethodName := ⟨RX5, "firstDoes", "(I)I"⟩
abbrev cX5_seek : ByteArray := prog_7_method_4_code
def yX5_seek : MethodName := ⟨RX5, "seek", "(LMirrorDrill$Drill;J)V"⟩
abbrev cX5_seekInRing : ByteArray := prog_7_method_5_code
def yX5_seekInRing : MethodName := ⟨RX5, "seekInRing", "()V"⟩
abbrev cX5_wayAt : ByteArray := prog_7_method_6_code
def yX5_wayAt : MethodName := ⟨RX5, "wayAt", "(III)I"⟩
abbrev cX5_layWays : ByteArray := prog_7_method_7_code
def yX5_layWays : MethodName := ⟨RX5, "layWays", "(II)V"⟩
abbrev cX5_waysAtEnd : ByteArray := prog_7_method_8_code
def yX5_waysAtEnd : MethodName := ⟨RX5, "waysAtEnd", "(IIII)J"⟩
abbrev cX5_waysBehind : ByteArray := prog_7_method_9_code
def yX5_waysBehind : MethodName := ⟨RX5, "waysBehind", "(III)J"⟩
abbrev cX5_leads : ByteArray := prog_7_method_10_code
def yX5_leads : MethodName := ⟨RX5, "leads", "(IIII)Z"⟩
abbrev cX5_addUp : ByteArray := prog_7_method_11_code
def yX5_addUp : MethodName := ⟨RX5, "addUp", "(II)V"⟩
abbrev cX5_keyOfFirst : ByteArray := prog_7_method_12_code
def yX5_keyOfFirst : MethodName := ⟨RX5, "keyOfFirst", "(II)J"⟩
abbrev cX5_firstBehind : ByteArray := prog_7_method_13_code
def yX5_firstBehind : MethodName := ⟨RX5, "firstBehind", "(III)I"⟩
def RX6 : String := "MirrorDrill$Pile"
def TX6 : u_T := fun k => match k with
  | 0 => ("MirrorDrill$Pile", "numbers", "[I", false)
  | _ => ("MirrorDrill$Pile", "count", "I", false)
def tyX6 : Nat → FieldType := fun k => match k with
  | 0 => .array .int
  | _ => .int
abbrev wsX60 : List Cond := u_ws RX6 TX6 2
theorem nmX6 : ∀ a, a < 2 → ∀ b, b < 2 → a ≠ b → (TX6 a).2.1 ≠ (TX6 b).2.1 := by decide +kernel
theorem tyX6_ok : ∀ k, k < 2 → parseFieldDescriptor (TX6 k).2.2.1 = some (tyX6 k) := by decide +kernel
abbrev cX6_init : ByteArray := prog_8_method_1_code
def yX6_init : MethodName := ⟨RX6, "<init>", "()V"⟩
abbrev cX6_clear : ByteArray := prog_8_method_2_code
def yX6_clear : MethodName := ⟨RX6, "clear", "()V"⟩
abbrev cX6_size : ByteArray := prog_8_method_3_code
def yX6_size : MethodName := ⟨RX6, "size", "()I"⟩
abbrev cX6_number : ByteArray := prog_8_method_4_code
def yX6_number : MethodName := ⟨RX6, "number", "(I)I"⟩
abbrev cX6_add : ByteArray := prog_8_method_5_code
def yX6_add : MethodName := ⟨RX6, "add", "(I)V"⟩
abbrev cX6_reserve : ByteArray := prog_8_method_6_code
def yX6_reserve : MethodName := ⟨RX6, "reserve", "(I)V"⟩
abbrev cX6_put : ByteArray := prog_8_method_7_code
def yX6_put : MethodName := ⟨RX6, "put", "(II)V"⟩
def RX7 : String := "MirrorDrill$Reader"
def TX7 : u_T := fun k => match k with
  | 0 => ("MirrorDrill$Reader", "text", "[I", false)
  | 1 => ("MirrorDrill$Reader", "length", "I", false)
  | 2 => ("MirrorDrill$Reader", "at", "I", false)
  | 3 => ("MirrorDrill$Reader", "token", "I", false)
  | 4 => ("MirrorDrill$Reader", "place", "I", false)
  | 5 => ("MirrorDrill$Reader", "value", "I", false)
  | 6 => ("MirrorDrill$Reader", "name", "J", false)
  | 7 => ("MirrorDrill$Reader", "target", "LMirrorDrill$Drill;", false)
  | 8 => ("MirrorDrill$Reader", "toldLines", "I", false)
  | 9 => ("MirrorDrill$Reader", "toldMen", "I", false)
  | 10 => ("MirrorDrill$Reader", "names", "[J", true)
  | 11 => ("MirrorDrill$Reader", "unitsInOne", "I", false)
  | 12 => ("MirrorDrill$Reader", "parts", "[I", true)
  | 13 => ("MirrorDrill$Reader", "top", "I", false)
  | 14 => ("MirrorDrill$Reader", "fault", "I", false)
  | _ => ("MirrorDrill$Reader", "faultPlace", "I", false)
def tyX7 : Nat → FieldType := fun k => match k with
  | 0 => .array .int
  | 1 => .int
  | 2 => .int
  | 3 => .int
  | 4 => .int
  | 5 => .int
  | 6 => .long
  | 7 => .object "MirrorDrill$Drill"
  | 8 => .int
  | 9 => .int
  | 10 => .array .long
  | 11 => .int
  | 12 => .array .int
  | 13 => .int
  | 14 => .int
  | _ => .int
abbrev wsX70 : List Cond := u_ws RX7 TX7 16
theorem nmX7 : ∀ a, a < 16 → ∀ b, b < 16 → a ≠ b → (TX7 a).2.1 ≠ (TX7 b).2.1 := by decide +kernel
theorem tyX7_ok : ∀ k, k < 16 → parseFieldDescriptor (TX7 k).2.2.1 = some (tyX7 k) := by decide +kernel
abbrev cX7_init : ByteArray := prog_9_method_1_code
def yX7_init : MethodName := ⟨RX7, "<init>", "()V"⟩
abbrev cX7_faultFound : ByteArray := prog_9_method_2_code
def yX7_faultFound : MethodName := ⟨RX7, "faultFound", "()I"⟩
abbrev cX7_placeOfFault : ByteArray := prog_9_method_3_code
def yX7_placeOfFault : MethodName := ⟨RX7, "placeOfFault", "()I"⟩
abbrev cX7_begin : ByteArray := prog_9_method_4_code
def yX7_begin : MethodName := ⟨RX7, "begin", "([IILMirrorDrill$Drill;)V"⟩
abbrev cX7_hasMore : ByteArray := prog_9_method_5_code
def yX7_hasMore : MethodName := ⟨RX7, "hasMore", "()Z"⟩
abbrev cX7_refuse : ByteArray := prog_9_method_6_code
def yX7_refuse : MethodName := ⟨RX7, "refuse", "(I)Z"⟩
abbrev cX7_advance : ByteArray := prog_9_method_7_code
def yX7_advance : MethodName := ⟨RX7, "advance", "()V"⟩
abbrev cX7_isBlank : ByteArray := prog_9_method_8_code
def yX7_isBlank : MethodName := ⟨RX7, "isBlank", "(I)Z"⟩
abbrev cX7_isLetter : ByteArray := prog_9_method_9_code
def yX7_isLetter : MethodName := ⟨RX7, "isLetter", "(I)Z"⟩
abbrev cX7_isDigit : ByteArray := prog_9_method_10_code
def yX7_isDigit : MethodName := ⟨RX7, "isDigit", "(I)Z"⟩
abbrev cX7_packWord : ByteArray := prog_9_method_11_code
def yX7_packWord : MethodName := ⟨RX7, "packWord", "()V"⟩
abbrev cX7_scanNumber : ByteArray := prog_9_method_12_code
def yX7_scanNumber : MethodName := ⟨RX7, "scanNumber", "()V"⟩
abbrev cX7_wordToken : ByteArray := prog_9_method_13_code
def yX7_wordToken : MethodName := ⟨RX7, "wordToken", "(J)I"⟩
abbrev cX7_expect : ByteArray := prog_9_method_14_code
def yX7_expect : MethodName := ⟨RX7, "expect", "(I)Z"⟩
abbrev cX7_takeNumber : ByteArray := prog_9_method_15_code
def yX7_takeNumber : MethodName := ⟨RX7, "takeNumber", "(II)I"⟩
abbrev cX7_takeMove : ByteArray := prog_9_method_16_code
def yX7_takeMove : MethodName := ⟨RX7, "takeMove", "()I"⟩
abbrev cX7_isTold : ByteArray := prog_9_method_17_code
def yX7_isTold : MethodName := ⟨RX7, "isTold", "(I)Z"⟩
abbrev cX7_startsLine : ByteArray := prog_9_method_18_code
def yX7_startsLine : MethodName := ⟨RX7, "startsLine", "(I)Z"⟩
abbrev cX7_readLine : ByteArray := prog_9_method_19_code
def yX7_readLine : MethodName := ⟨RX7, "readLine", "()Z"⟩
abbrev cX7_readWorths : ByteArray := prog_9_method_20_code
def yX7_readWorths : MethodName := ⟨RX7, "readWorths", "()Z"⟩
abbrev cX7_ruleNamed : ByteArray := prog_9_method_21_code
def yX7_ruleNamed : MethodName := ⟨RX7, "ruleNamed", "(J)I"⟩
abbrev cX7_readRule : ByteArray := prog_9_method_22_code
def yX7_readRule : MethodName := ⟨RX7, "readRule", "()Z"⟩
abbrev cX7_readMan : ByteArray := prog_9_method_23_code
def yX7_readMan : MethodName := ⟨RX7, "readMan", "()Z"⟩
abbrev cX7_readBy : ByteArray := prog_9_method_24_code
def yX7_readBy : MethodName := ⟨RX7, "readBy", "(I)Z"⟩
abbrev cX7_readMarks : ByteArray := prog_9_method_25_code
def yX7_readMarks : MethodName := ⟨RX7, "readMarks", "(I)Z"⟩
abbrev cX7_readWindow : ByteArray := prog_9_method_26_code
def yX7_readWindow : MethodName := ⟨RX7, "readWindow", "(I)Z"⟩
abbrev cX7_readFormula : ByteArray := prog_9_method_27_code
def yX7_readFormula : MethodName := ⟨RX7, "readFormula", "(II)Z"⟩
abbrev cX7_levelOf : ByteArray := prog_9_method_28_code
def yX7_levelOf : MethodName := ⟨RX7, "levelOf", "(I)I"⟩
abbrev cX7_readNot : ByteArray := prog_9_method_29_code
def yX7_readNot : MethodName := ⟨RX7, "readNot", "(I)Z"⟩
abbrev cX7_readUnit : ByteArray := prog_9_method_30_code
def yX7_readUnit : MethodName := ⟨RX7, "readUnit", "(I)Z"⟩
abbrev cX7_layPart : ByteArray := prog_9_method_31_code
def yX7_layPart : MethodName := ⟨RX7, "layPart", "()V"⟩
abbrev cX7_valueOf : ByteArray := prog_9_method_32_code
def yX7_valueOf : MethodName := ⟨RX7, "valueOf", "(I)I"⟩
abbrev cX7_joinParts : ByteArray := prog_9_method_33_code
def yX7_joinParts : MethodName := ⟨RX7, "joinParts", "(I)V"⟩
abbrev cX7_joined : ByteArray := prog_9_method_34_code
def yX7_joined : MethodName := ⟨RX7, "joined", "(III)I"⟩
def RX8 : String := "MirrorDrill$Witness"
def TX8 : u_T := fun k => match k with
  | 0 => ("MirrorDrill$Witness", "beatOf", "[I", true)
  | 1 => ("MirrorDrill$Witness", "manOf", "[I", true)
  | 2 => ("MirrorDrill$Witness", "moveOf", "[I", true)
  | 3 => ("MirrorDrill$Witness", "toldAt", "[I", true)
  | 4 => ("MirrorDrill$Witness", "untoldAt", "[I", true)
  | 5 => ("MirrorDrill$Witness", "sights", "I", false)
  | 6 => ("MirrorDrill$Witness", "unsureMen", "I", false)
  | 7 => ("MirrorDrill$Witness", "cells", "[J", true)
  | 8 => ("MirrorDrill$Witness", "contents", "[J", true)
  | 9 => ("MirrorDrill$Witness", "lastBeat", "I", false)
  | 10 => ("MirrorDrill$Witness", "clash", "Z", false)
  | 11 => ("MirrorDrill$Witness", "drill", "LMirrorDrill$Drill;", false)
  | 12 => ("MirrorDrill$Witness", "unsureOnes", "[I", true)
  | 13 => ("MirrorDrill$Witness", "known", "Z", false)
  | 14 => ("MirrorDrill$Witness", "knownSights", "I", false)
  | 15 => ("MirrorDrill$Witness", "fitting", "I", false)
  | _ => ("MirrorDrill$Witness", "movesFitting", "[I", true)
def tyX8 : Nat → FieldType := fun k => match k with
  | 0 => .array .int
  | 1 => .array .int
  | 2 => .array .int
  | 3 => .array .int
  | 4 => .array .int
  | 5 => .int
  | 6 => .int
  | 7 => .array .long
  | 8 => .array .long
  | 9 => .int
  | 10 => .boolean
  | 11 => .object "MirrorDrill$Drill"
  | 12 => .array .int
  | 13 => .boolean
  | 14 => .int
  | 15 => .int
  | _ => .array .int
abbrev wsX80 : List Cond := u_ws RX8 TX8 17
theorem nmX8 : ∀ a, a < 17 → ∀ b, b < 17 → a ≠ b → (TX8 a).2.1 ≠ (TX8 b).2.1 := by decide +kernel
theorem tyX8_ok : ∀ k, k < 17 → parseFieldDescriptor (TX8 k).2.2.1 = some (tyX8 k) := by decide +kernel
abbrev cX8_init : ByteArray := prog_10_method_1_code
def yX8_init : MethodName := ⟨RX8, "<init>", "()V"⟩
abbrev cX8_forget : ByteArray := prog_10_method_2_code
def yX8_forget : MethodName := ⟨RX8, "forget", "()V"⟩
abbrev cX8_sights : ByteArray := prog_10_method_3_code
def yX8_sights : MethodName := ⟨RX8, "sights", "()I"⟩
abbrev cX8_tell : ByteArray := prog_10_method_4_code
def yX8_tell : MethodName := ⟨RX8, "tell", "(IIII)I"⟩
abbrev cX8_takeAway : ByteArray := prog_10_method_5_code
def yX8_takeAway : MethodName := ⟨RX8, "takeAway", "(II)Z"⟩
abbrev cX8_doubt : ByteArray := prog_10_method_6_code
def yX8_doubt : MethodName := ⟨RX8, "doubt", "(I)V"⟩
abbrev cX8_doubted : ByteArray := prog_10_method_7_code
def yX8_doubted : MethodName := ⟨RX8, "doubted", "()I"⟩
abbrev cX8_doubts : ByteArray := prog_10_method_8_code
def yX8_doubts : MethodName := ⟨RX8, "doubts", "(I)Z"⟩
abbrev cX8_counts : ByteArray := prog_10_method_9_code
def yX8_counts : MethodName := ⟨RX8, "counts", "(II)Z"⟩
abbrev cX8_gather : ByteArray := prog_10_method_10_code
def yX8_gather : MethodName := ⟨RX8, "gather", "(LMirrorDrill$Drill;I)I"⟩
abbrev cX8_demand : ByteArray := prog_10_method_11_code
def yX8_demand : MethodName := ⟨RX8, "demand", "(III)V"⟩
abbrev cX8_holds : ByteArray := prog_10_method_12_code
def yX8_holds : MethodName := ⟨RX8, "holds", "(JIII)Z"⟩
abbrev cX8_isAsSeen : ByteArray := prog_10_method_13_code
def yX8_isAsSeen : MethodName := ⟨RX8, "isAsSeen", "(JI)Z"⟩
abbrev cX8_fitting : ByteArray := prog_10_method_14_code
def yX8_fitting : MethodName := ⟨RX8, "fitting", "(LMirrorDrill$Drill;I)I"⟩
abbrev cX8_movesThatFit : ByteArray := prog_10_method_15_code
def yX8_movesThatFit : MethodName := ⟨RX8, "movesThatFit", "(I)I"⟩
abbrev cX8_listUnsure : ByteArray := prog_10_method_16_code
def yX8_listUnsure : MethodName := ⟨RX8, "listUnsure", "()I"⟩
abbrev cX8_tryAll : ByteArray := prog_10_method_17_code
def yX8_tryAll : MethodName := ⟨RX8, "tryAll", "()V"⟩
abbrev cX8_rowOfCase : ByteArray := prog_10_method_18_code
def yX8_rowOfCase : MethodName := ⟨RX8, "rowOfCase", "(II)J"⟩
abbrev cX8_noteMoves : ByteArray := prog_10_method_19_code
def yX8_noteMoves : MethodName := ⟨RX8, "noteMoves", "(JI)V"⟩
abbrev cX8_nothingWrong : ByteArray := prog_10_method_20_code
def yX8_nothingWrong : MethodName := ⟨RX8, "nothingWrong", "(LMirrorDrill$Drill;I)Z"⟩
abbrev cX8_menMaybeCracked : ByteArray := prog_10_method_21_code
def yX8_menMaybeCracked : MethodName := ⟨RX8, "menMaybeCracked", "(LMirrorDrill$Drill;I)I"⟩
abbrev cX8_menMaybeWindowed : ByteArray := prog_10_method_22_code
def yX8_menMaybeWindowed : MethodName := ⟨RX8, "menMaybeWindowed", "(LMirrorDrill$Drill;I)I"⟩
def RX9 : String := "MirrorDrill"
def TX9 : u_T := fun k => match k with
  | 0 => ("MirrorDrill", "tape", "[I", true)
  | 1 => ("MirrorDrill", "taped", "I", false)
  | 2 => ("MirrorDrill", "reader", "LMirrorDrill$Reader;", true)
  | 3 => ("MirrorDrill", "drill", "LMirrorDrill$Drill;", false)
  | 4 => ("MirrorDrill", "spare", "LMirrorDrill$Drill;", false)
  | 5 => ("MirrorDrill", "fault", "I", false)
  | 6 => ("MirrorDrill", "faultPlace", "I", false)
  | 7 => ("MirrorDrill", "earnest", "LMirrorDrill$Earnest;", true)
  | 8 => ("MirrorDrill", "boxRows", "[J", true)
  | 9 => ("MirrorDrill", "boxBeats", "[I", true)
  | 10 => ("MirrorDrill", "pile", "LMirrorDrill$Pile;", true)
  | 11 => ("MirrorDrill", "time", "I", false)
  | 12 => ("MirrorDrill", "course", "LMirrorDrill$Course;", true)
  | 13 => ("MirrorDrill", "forebears", "LMirrorDrill$Forebears;", true)
  | 14 => ("MirrorDrill", "endless", "LMirrorDrill$Endless;", true)
  | 15 => ("MirrorDrill", "changes", "LMirrorDrill$Changes;", true)
  | _ => ("MirrorDrill", "witness", "LMirrorDrill$Witness;", true)
def tyX9 : Nat → FieldType := fun k => match k with
  | 0 => .array .int
  | 1 => .int
  | 2 => .object "MirrorDrill$Reader"
  | 3 => .object "MirrorDrill$Drill"
  | 4 => .object "MirrorDrill$Drill"
  | 5 => .int
  | 6 => .int
  | 7 => .object "MirrorDrill$Earnest"
  | 8 => .array .long
  | 9 => .array .int
  | 10 => .object "MirrorDrill$Pile"
  | 11 => .int
  | 12 => .object "MirrorDrill$Course"
  | 13 => .object "MirrorDrill$Forebears"
  | 14 => .object "MirrorDrill$Endless"
  | 15 => .object "MirrorDrill$Changes"
  | _ => .object "MirrorDrill$Witness"
abbrev wsX90 : List Cond := u_ws RX9 TX9 17
theorem nmX9 : ∀ a, a < 17 → ∀ b, b < 17 → a ≠ b → (TX9 a).2.1 ≠ (TX9 b).2.1 := by decide +kernel
theorem tyX9_ok : ∀ k, k < 17 → parseFieldDescriptor (TX9 k).2.2.1 = some (tyX9 k) := by decide +kernel
abbrev cX9_init : ByteArray := prog_1_method_1_code
def yX9_init : MethodName := ⟨RX9, "<init>", "()V"⟩
abbrev cX9_feed : ByteArray := prog_1_method_2_code
def yX9_feed : MethodName := ⟨RX9, "feed", "(IIIII)I"⟩
abbrev cX9_tapeNumber : ByteArray := prog_1_method_3_code
def yX9_tapeNumber : MethodName := ⟨RX9, "tapeNumber", "(I)V"⟩
abbrev cX9_end : ByteArray := prog_1_method_4_code
def yX9_end : MethodName := ⟨RX9, "end", "(I)I"⟩
abbrev cX9_drill : ByteArray := prog_1_method_5_code
def yX9_drill : MethodName := ⟨RX9, "drill", "()I"⟩
abbrev cX9_fault : ByteArray := prog_1_method_6_code
def yX9_fault : MethodName := ⟨RX9, "fault", "(I)I"⟩
abbrev cX9_does : ByteArray := prog_1_method_7_code
def yX9_does : MethodName := ⟨RX9, "does", "(I)I"⟩
abbrev cX9_made : ByteArray := prog_1_method_8_code
def yX9_made : MethodName := ⟨RX9, "made", "(IIII)I"⟩
abbrev cX9_run : ByteArray := prog_1_method_9_code
def yX9_run : MethodName := ⟨RX9, "run", "(I)I"⟩
abbrev cX9_order : ByteArray := prog_1_method_10_code
def yX9_order : MethodName := ⟨RX9, "order", "(II)I"⟩
abbrev cX9_undo : ByteArray := prog_1_method_11_code
def yX9_undo : MethodName := ⟨RX9, "undo", "()Z"⟩
abbrev cX9_redo : ByteArray := prog_1_method_12_code
def yX9_redo : MethodName := ⟨RX9, "redo", "()Z"⟩
abbrev cX9_worth : ByteArray := prog_1_method_13_code
def yX9_worth : MethodName := ⟨RX9, "worth", "()I"⟩
abbrev cX9_round : ByteArray := prog_1_method_14_code
def yX9_round : MethodName := ⟨RX9, "round", "(I)I"⟩
abbrev cX9_before : ByteArray := prog_1_method_15_code
def yX9_before : MethodName := ⟨RX9, "before", "()J"⟩
abbrev cX9_orphan : ByteArray := prog_1_method_16_code
def yX9_orphan : MethodName := ⟨RX9, "orphan", "(I)I"⟩
abbrev cX9_one : ByteArray := prog_1_method_17_code
def yX9_one : MethodName := ⟨RX9, "one", "(I)I"⟩
abbrev cX9_keeps : ByteArray := prog_1_method_18_code
def yX9_keeps : MethodName := ⟨RX9, "keeps", "(I)I"⟩
abbrev cX9_spread : ByteArray := prog_1_method_19_code
def yX9_spread : MethodName := ⟨RX9, "spread", "(III)I"⟩
abbrev cX9_glint : ByteArray := prog_1_method_20_code
def yX9_glint : MethodName := ⟨RX9, "glint", "(III)I"⟩
abbrev cX9_cracks : ByteArray := prog_1_method_21_code
def yX9_cracks : MethodName := ⟨RX9, "cracks", "(III)I"⟩
abbrev cX9_lies : ByteArray := prog_1_method_22_code
def yX9_lies : MethodName := ⟨RX9, "lies", "(I)I"⟩
abbrev cX9_sight : ByteArray := prog_1_method_23_code
def yX9_sight : MethodName := ⟨RX9, "sight", "(III)I"⟩
abbrev cX9_untell : ByteArray := prog_1_method_24_code
def yX9_untell : MethodName := ⟨RX9, "untell", "(I)Z"⟩
abbrev cX9_later : ByteArray := prog_1_method_25_code
def yX9_later : MethodName := ⟨RX9, "later", "(I)I"⟩
abbrev cX9_unsure : ByteArray := prog_1_method_26_code
def yX9_unsure : MethodName := ⟨RX9, "unsure", "(I)I"⟩
abbrev cX9_fits : ByteArray := prog_1_method_27_code
def yX9_fits : MethodName := ⟨RX9, "fits", "(I)I"⟩
abbrev cX9_sure : ByteArray := prog_1_method_28_code
def yX9_sure : MethodName := ⟨RX9, "sure", "(II)I"⟩
abbrev cX9_wrong : ByteArray := prog_1_method_29_code
def yX9_wrong : MethodName := ⟨RX9, "wrong", "(II)I"⟩
abbrev cX9_image : ByteArray := prog_1_method_30_code
def yX9_image : MethodName := ⟨RX9, "image", "(I)I"⟩
abbrev cX9_back : ByteArray := prog_1_method_31_code
def yX9_back : MethodName := ⟨RX9, "back", "(I)I"⟩
abbrev cX9_about : ByteArray := prog_1_method_32_code
def yX9_about : MethodName := ⟨RX9, "about", "(I)I"⟩
abbrev cX9_view : ByteArray := prog_1_method_33_code
def yX9_view : MethodName := ⟨RX9, "view", "(III)I"⟩
abbrev cX9_cell : ByteArray := prog_1_method_34_code
def yX9_cell : MethodName := ⟨RX9, "cell", "(JI)I"⟩
abbrev cX9_with : ByteArray := prog_1_method_35_code
def yX9_with : MethodName := ⟨RX9, "with", "(JII)J"⟩
abbrev cX9_differing : ByteArray := prog_1_method_36_code
def yX9_differing : MethodName := ⟨RX9, "differing", "(JJ)I"⟩
def RX10 : String := "MirrorDrillModel"
def TX10 : u_T := fun k => match k with
  | 0 => ("MirrorDrillModel", "tape", "[B", true)
  | 1 => ("MirrorDrillModel", "text", "[B", true)
  | 2 => ("MirrorDrillModel", "taped", "I", false)
  | 3 => ("MirrorDrillModel", "size", "I", false)
  | 4 => ("MirrorDrillModel", "faultKind", "I", false)
  | 5 => ("MirrorDrillModel", "faultPlace", "I", false)
  | 6 => ("MirrorDrillModel", "at", "I", false)
  | 7 => ("MirrorDrillModel", "end", "I", false)
  | 8 => ("MirrorDrillModel", "token", "I", false)
  | 9 => ("MirrorDrillModel", "number", "I", false)
  | 10 => ("MirrorDrillModel", "name", "J", false)
  | 11 => ("MirrorDrillModel", "moves", "[I", true)
  | 12 => ("MirrorDrillModel", "men", "[I", true)
  | 13 => ("MirrorDrillModel", "rules", "[I", true)
  | 14 => ("MirrorDrillModel", "unitsOf", "[I", true)
  | 15 => ("MirrorDrillModel", "edge", "[I", true)
  | 16 => ("MirrorDrillModel", "worthOf", "[I", true)
  | 17 => ("MirrorDrillModel", "ruleFrom", "[I", true)
  | 18 => ("MirrorDrillModel", "ruleTo", "[I", true)
  | 19 => ("MirrorDrillModel", "table", "[I", true)
  | 20 => ("MirrorDrillModel", "first", "[I", true)
  | 21 => ("MirrorDrillModel", "byRule", "[I", true)
  | 22 => ("MirrorDrillModel", "window", "[I", true)
  | 23 => ("MirrorDrillModel", "isMoves", "[Z", true)
  | 24 => ("MirrorDrillModel", "isMen", "[Z", true)
  | 25 => ("MirrorDrillModel", "isRing", "[Z", true)
  | 26 => ("MirrorDrillModel", "isEdge", "[Z", true)
  | 27 => ("MirrorDrillModel", "isWorth", "[Z", true)
  | 28 => ("MirrorDrillModel", "isTurned", "[Z", true)
  | 29 => ("MirrorDrillModel", "isCracked", "[Z", true)
  | 30 => ("MirrorDrillModel", "isTold", "[Z", true)
  | 31 => ("MirrorDrillModel", "rName", "[J", true)
  | 32 => ("MirrorDrillModel", "code", "[I", true)
  | 33 => ("MirrorDrillModel", "codeNumber", "[I", true)
  | 34 => ("MirrorDrillModel", "eWhat", "[I", true)
  | 35 => ("MirrorDrillModel", "eSign", "[I", true)
  | 36 => ("MirrorDrillModel", "pile", "[I", true)
  | 37 => ("MirrorDrillModel", "bank", "I", false)
  | 38 => ("MirrorDrillModel", "rb", "I", false)
  | 39 => ("MirrorDrillModel", "codes", "I", false)
  | 40 => ("MirrorDrillModel", "within", "I", false)
  | 41 => ("MirrorDrillModel", "piled", "I", false)
  | 42 => ("MirrorDrillModel", "unitsInRule", "I", false)
  | 43 => ("MirrorDrillModel", "row", "[I", true)
  | 44 => ("MirrorDrillModel", "next", "[I", true)
  | 45 => ("MirrorDrillModel", "now", "[I", true)
  | 46 => ("MirrorDrillModel", "beats", "I", false)
  | 47 => ("MirrorDrillModel", "moreCracked", "I", false)
  | 48 => ("MirrorDrillModel", "otherMan", "I", false)
  | 49 => ("MirrorDrillModel", "otherWindow", "I", false)
  | 50 => ("MirrorDrillModel", "was", "[I", true)
  | 51 => ("MirrorDrillModel", "acts", "I", false)
  | 52 => ("MirrorDrillModel", "undone", "I", false)
  | 53 => ("MirrorDrillModel", "seen", "[J", true)
  | 54 => ("MirrorDrillModel", "tail", "I", false)
  | 55 => ("MirrorDrillModel", "loop", "I", false)
  | 56 => ("MirrorDrillModel", "given", "[I", true)
  | 57 => ("MirrorDrillModel", "ways", "[J", true)
  | 58 => ("MirrorDrillModel", "waysNext", "[J", true)
  | 59 => ("MirrorDrillModel", "laidRow", "[I", true)
  | 60 => ("MirrorDrillModel", "laid", "I", false)
  | 61 => ("MirrorDrillModel", "queue", "[I", true)
  | 62 => ("MirrorDrillModel", "cameFrom", "[I", true)
  | 63 => ("MirrorDrillModel", "cameBy", "[B", true)
  | 64 => ("MirrorDrillModel", "isOrphan", "Z", false)
  | 65 => ("MirrorDrillModel", "isOn", "[Z", true)
  | 66 => ("MirrorDrillModel", "other", "[I", true)
  | 67 => ("MirrorDrillModel", "pickMan", "[I", true)
  | 68 => ("MirrorDrillModel", "pickMove", "[I", true)
  | 69 => ("MirrorDrillModel", "gBeat", "[I", true)
  | 70 => ("MirrorDrillModel", "gMan", "[I", true)
  | 71 => ("MirrorDrillModel", "gMove", "[I", true)
  | 72 => ("MirrorDrillModel", "gTold", "[I", true)
  | 73 => ("MirrorDrillModel", "gUntold", "[I", true)
  | 74 => ("MirrorDrillModel", "sureMoves", "[I", true)
  | 75 => ("MirrorDrillModel", "sights", "I", false)
  | 76 => ("MirrorDrillModel", "time", "I", false)
  | 77 => ("MirrorDrillModel", "unsureSet", "I", false)
  | 78 => ("MirrorDrillModel", "boxBeats", "[I", true)
  | _ => ("MirrorDrillModel", "boxRow", "[I", true)
def tyX10 : Nat → FieldType := fun k => match k with
  | 0 => .array .byte
  | 1 => .array .byte
  | 2 => .int
  | 3 => .int
  | 4 => .int
  | 5 => .int
  | 6 => .int
  | 7 => .int
  | 8 => .int
  | 9 => .int
  | 10 => .long
  | 11 => .array .int
  | 12 => .array .int
  | 13 => .array .int
  | 14 => .array .int
  | 15 => .array .int
  | 16 => .array .int
  | 17 => .array .int
  | 18 => .array .int
  | 19 => .array .int
  | 20 => .array .int
  | 21 => .array .int
  | 22 => .array .int
  | 23 => .array .boolean
  | 24 => .array .boolean
  | 25 => .array .boolean
  | 26 => .array .boolean
  | 27 => .array .boolean
  | 28 => .array .boolean
  | 29 => .array .boolean
  | 30 => .array .boolean
  | 31 => .array .long
  | 32 => .array .int
  | 33 => .array .int
  | 34 => .array .int
  | 35 => .array .int
  | 36 => .array .int
  | 37 => .int
  | 38 => .int
  | 39 => .int
  | 40 => .int
  | 41 => .int
  | 42 => .int
  | 43 => .array .int
  | 44 => .array .int
  | 45 => .array .int
  | 46 => .int
  | 47 => .int
  | 48 => .int
  | 49 => .int
  | 50 => .array .int
  | 51 => .int
  | 52 => .int
  | 53 => .array .long
  | 54 => .int
  | 55 => .int
  | 56 => .array .int
  | 57 => .array .long
  | 58 => .array .long
  | 59 => .array .int
  | 60 => .int
  | 61 => .array .int
  | 62 => .array .int
  | 63 => .array .byte
  | 64 => .boolean
  | 65 => .array .boolean
  | 66 => .array .int
  | 67 => .array .int
  | 68 => .array .int
  | 69 => .array .int
  | 70 => .array .int
  | 71 => .array .int
  | 72 => .array .int
  | 73 => .array .int
  | 74 => .array .int
  | 75 => .int
  | 76 => .int
  | 77 => .int
  | 78 => .array .int
  | _ => .array .int
abbrev wsX100 : List Cond := u_ws RX10 TX10 80
theorem nmX10 : ∀ a, a < 80 → ∀ b, b < 80 → a ≠ b → (TX10 a).2.1 ≠ (TX10 b).2.1 := by decide +kernel
theorem tyX10_ok : ∀ k, k < 80 → parseFieldDescriptor (TX10 k).2.2.1 = some (tyX10 k) := by decide +kernel
abbrev cX10_init : ByteArray := prog_12_method_1_code
def yX10_init : MethodName := ⟨RX10, "<init>", "()V"⟩
abbrev cX10_sign : ByteArray := prog_12_method_2_code
def yX10_sign : MethodName := ⟨RX10, "sign", "(I)I"⟩
abbrev cX10_isLetter : ByteArray := prog_12_method_3_code
def yX10_isLetter : MethodName := ⟨RX10, "isLetter", "(I)Z"⟩
abbrev cX10_isDigit : ByteArray := prog_12_method_4_code
def yX10_isDigit : MethodName := ⟨RX10, "isDigit", "(I)Z"⟩
abbrev cX10_fails : ByteArray := prog_12_method_5_code
def yX10_fails : MethodName := ⟨RX10, "fails", "(II)V"⟩
abbrev cX10_isGood : ByteArray := prog_12_method_6_code
def yX10_isGood : MethodName := ⟨RX10, "isGood", "()Z"⟩
abbrev cX10_isKept : ByteArray := prog_12_method_7_code
def yX10_isKept : MethodName := ⟨RX10, "isKept", "(J)Z"⟩
abbrev cX10_isSign : ByteArray := prog_12_method_8_code
def yX10_isSign : MethodName := ⟨RX10, "isSign", "(I)Z"⟩
abbrev cX10_goOn : ByteArray := prog_12_method_9_code
def yX10_goOn : MethodName := ⟨RX10, "goOn", "()V"⟩
abbrev cX10_isSignHere : ByteArray := prog_12_method_10_code
def yX10_isSignHere : MethodName := ⟨RX10, "isSignHere", "(I)Z"⟩
abbrev cX10_isWord : ByteArray := prog_12_method_11_code
def yX10_isWord : MethodName := ⟨RX10, "isWord", "(J)Z"⟩
abbrev cX10_misplaced : ByteArray := prog_12_method_12_code
def yX10_misplaced : MethodName := ⟨RX10, "misplaced", "()V"⟩
abbrev cX10_must : ByteArray := prog_12_method_13_code
def yX10_must : MethodName := ⟨RX10, "must", "(Z)V"⟩
abbrev cX10_numeral : ByteArray := prog_12_method_14_code
def yX10_numeral : MethodName := ⟨RX10, "numeral", "(II)I"⟩
abbrev cX10_clearBank : ByteArray := prog_12_method_15_code
def yX10_clearBank : MethodName := ⟨RX10, "clearBank", "()V"⟩
abbrev cX10_drill : ByteArray := prog_12_method_16_code
def yX10_drill : MethodName := ⟨RX10, "drill", "()I"⟩
abbrev cX10_isFull : ByteArray := prog_12_method_17_code
def yX10_isFull : MethodName := ⟨RX10, "isFull", "()Z"⟩
abbrev cX10_readLine : ByteArray := prog_12_method_18_code
def yX10_readLine : MethodName := ⟨RX10, "readLine", "()V"⟩
abbrev cX10_ruleHere : ByteArray := prog_12_method_19_code
def yX10_ruleHere : MethodName := ⟨RX10, "ruleHere", "()I"⟩
abbrev cX10_readRule : ByteArray := prog_12_method_20_code
def yX10_readRule : MethodName := ⟨RX10, "readRule", "()V"⟩
abbrev cX10_readMan : ByteArray := prog_12_method_21_code
def yX10_readMan : MethodName := ⟨RX10, "readMan", "()V"⟩
abbrev cX10_readBy : ByteArray := prog_12_method_22_code
def yX10_readBy : MethodName := ⟨RX10, "readBy", "(I)V"⟩
abbrev cX10_flag : ByteArray := prog_12_method_23_code
def yX10_flag : MethodName := ⟨RX10, "flag", "(J)Z"⟩
abbrev cX10_emit : ByteArray := prog_12_method_24_code
def yX10_emit : MethodName := ⟨RX10, "emit", "(II)V"⟩
abbrev cX10_pushE : ByteArray := prog_12_method_25_code
def yX10_pushE : MethodName := ⟨RX10, "pushE", "(II)V"⟩
abbrev cX10_e : ByteArray := prog_12_method_26_code
def yX10_e : MethodName := ⟨RX10, "e", "()V"⟩
abbrev cX10_wordHere : ByteArray := prog_12_method_27_code
def yX10_wordHere : MethodName := ⟨RX10, "wordHere", "()I"⟩
abbrev cX10_unit : ByteArray := prog_12_method_28_code
def yX10_unit : MethodName := ⟨RX10, "unit", "()Z"⟩
abbrev cX10_rankHere : ByteArray := prog_12_method_29_code
def yX10_rankHere : MethodName := ⟨RX10, "rankHere", "()I"⟩
abbrev cX10_isCompared : ByteArray := prog_12_method_30_code
def yX10_isCompared : MethodName := ⟨RX10, "isCompared", "()Z"⟩
abbrev cX10_behindUnit : ByteArray := prog_12_method_31_code
def yX10_behindUnit : MethodName := ⟨RX10, "behindUnit", "()Z"⟩
abbrev cX10_two : ByteArray := prog_12_method_32_code
def yX10_two : MethodName := ⟨RX10, "two", "(III)I"⟩
abbrev cX10_comes : ByteArray := prog_12_method_33_code
def yX10_comes : MethodName := ⟨RX10, "comes", "(IIII)I"⟩
abbrev cX10_layTables : ByteArray := prog_12_method_34_code
def yX10_layTables : MethodName := ⟨RX10, "layTables", "()V"⟩
abbrev cX10_makes : ByteArray := prog_12_method_35_code
def yX10_makes : MethodName := ⟨RX10, "makes", "(IIII)I"⟩
abbrev cX10_fault : ByteArray := prog_12_method_36_code
def yX10_fault : MethodName := ⟨RX10, "fault", "(I)I"⟩
abbrev cX10_isIn : ByteArray := prog_12_method_37_code
def yX10_isIn : MethodName := ⟨RX10, "isIn", "(III)Z"⟩
abbrev cX10_bitsOf : ByteArray := prog_12_method_38_code
def yX10_bitsOf : MethodName := ⟨RX10, "bitsOf", "(I)I"⟩
abbrev cX10_manyOf : ByteArray := prog_12_method_39_code
def yX10_manyOf : MethodName := ⟨RX10, "manyOf", "()I"⟩
abbrev cX10_isMan : ByteArray := prog_12_method_40_code
def yX10_isMan : MethodName := ⟨RX10, "isMan", "(I)Z"⟩
abbrev cX10_isMove : ByteArray := prog_12_method_41_code
def yX10_isMove : MethodName := ⟨RX10, "isMove", "(I)Z"⟩
abbrev cX10_isRule : ByteArray := prog_12_method_42_code
def yX10_isRule : MethodName := ⟨RX10, "isRule", "(I)Z"⟩
abbrev cX10_begin : ByteArray := prog_12_method_43_code
def yX10_begin : MethodName := ⟨RX10, "begin", "()V"⟩
abbrev cX10_layFirst : ByteArray := prog_12_method_44_code
def yX10_layFirst : MethodName := ⟨RX10, "layFirst", "()V"⟩
abbrev cX10_layNow : ByteArray := prog_12_method_45_code
def yX10_layNow : MethodName := ⟨RX10, "layNow", "()V"⟩
abbrev cX10_keepNow : ByteArray := prog_12_method_46_code
def yX10_keepNow : MethodName := ⟨RX10, "keepNow", "()V"⟩
abbrev cX10_windowOf : ByteArray := prog_12_method_47_code
def yX10_windowOf : MethodName := ⟨RX10, "windowOf", "(I)I"⟩
abbrev cX10_stays : ByteArray := prog_12_method_48_code
def yX10_stays : MethodName := ⟨RX10, "stays", "(I)Z"⟩
abbrev cX10_after : ByteArray := prog_12_method_49_code
def yX10_after : MethodName := ⟨RX10, "after", "(IIII)I"⟩
abbrev cX10_aheadOf : ByteArray := prog_12_method_50_code
def yX10_aheadOf : MethodName := ⟨RX10, "aheadOf", "(I)I"⟩
abbrev cX10_behindOf : ByteArray := prog_12_method_51_code
def yX10_behindOf : MethodName := ⟨RX10, "behindOf", "(I)I"⟩
abbrev cX10_beat : ByteArray := prog_12_method_52_code
def yX10_beat : MethodName := ⟨RX10, "beat", "()V"⟩
abbrev cX10_beatTimes : ByteArray := prog_12_method_53_code
def yX10_beatTimes : MethodName := ⟨RX10, "beatTimes", "(I)V"⟩
abbrev cX10_does : ByteArray := prog_12_method_54_code
def yX10_does : MethodName := ⟨RX10, "does", "(I)I"⟩
abbrev cX10_made : ByteArray := prog_12_method_55_code
def yX10_made : MethodName := ⟨RX10, "made", "(IIII)I"⟩
abbrev cX10_keepAct : ByteArray := prog_12_method_56_code
def yX10_keepAct : MethodName := ⟨RX10, "keepAct", "()V"⟩
abbrev cX10_exchange : ByteArray := prog_12_method_57_code
def yX10_exchange : MethodName := ⟨RX10, "exchange", "()V"⟩
abbrev cX10_run : ByteArray := prog_12_method_58_code
def yX10_run : MethodName := ⟨RX10, "run", "(I)I"⟩
abbrev cX10_order : ByteArray := prog_12_method_59_code
def yX10_order : MethodName := ⟨RX10, "order", "(II)I"⟩
abbrev cX10_undo : ByteArray := prog_12_method_60_code
def yX10_undo : MethodName := ⟨RX10, "undo", "()Z"⟩
abbrev cX10_redo : ByteArray := prog_12_method_61_code
def yX10_redo : MethodName := ⟨RX10, "redo", "()Z"⟩
abbrev cX10_worth : ByteArray := prog_12_method_62_code
def yX10_worth : MethodName := ⟨RX10, "worth", "()I"⟩
abbrev cX10_rowNumber : ByteArray := prog_12_method_63_code
def yX10_rowNumber : MethodName := ⟨RX10, "rowNumber", "()J"⟩
abbrev cX10_layRound : ByteArray := prog_12_method_64_code
def yX10_layRound : MethodName := ⟨RX10, "layRound", "()Z"⟩
abbrev cX10_round : ByteArray := prog_12_method_65_code
def yX10_round : MethodName := ⟨RX10, "round", "(I)I"⟩
abbrev cX10_mayDo : ByteArray := prog_12_method_66_code
def yX10_mayDo : MethodName := ⟨RX10, "mayDo", "(II)Z"⟩
abbrev cX10_atMost : ByteArray := prog_12_method_67_code
def yX10_atMost : MethodName := ⟨RX10, "atMost", "(J)J"⟩
abbrev cX10_countAhead : ByteArray := prog_12_method_68_code
def yX10_countAhead : MethodName := ⟨RX10, "countAhead", "()J"⟩
abbrev cX10_countFrom : ByteArray := prog_12_method_69_code
def yX10_countFrom : MethodName := ⟨RX10, "countFrom", "(II)J"⟩
abbrev cX10_before : ByteArray := prog_12_method_70_code
def yX10_before : MethodName := ⟨RX10, "before", "()J"⟩
abbrev cX10_stepSet : ByteArray := prog_12_method_71_code
def yX10_stepSet : MethodName := ⟨RX10, "stepSet", "(III)I"⟩
abbrev cX10_allPairs : ByteArray := prog_12_method_72_code
def yX10_allPairs : MethodName := ⟨RX10, "allPairs", "()I"⟩
abbrev cX10_orphan : ByteArray := prog_12_method_73_code
def yX10_orphan : MethodName := ⟨RX10, "orphan", "(I)I"⟩
abbrev cX10_layOrphan : ByteArray := prog_12_method_74_code
def yX10_layOrphan : MethodName := ⟨RX10, "layOrphan", "()I"⟩
abbrev cX10_orphanAt : ByteArray := prog_12_method_75_code
def yX10_orphanAt : MethodName := ⟨RX10, "orphanAt", "(I)I"⟩
abbrev cX10_leads : ByteArray := prog_12_method_76_code
def yX10_leads : MethodName := ⟨RX10, "leads", "(III)Z"⟩
abbrev cX10_isPair : ByteArray := prog_12_method_77_code
def yX10_isPair : MethodName := ⟨RX10, "isPair", "(I)Z"⟩
abbrev cX10_hasNext : ByteArray := prog_12_method_78_code
def yX10_hasNext : MethodName := ⟨RX10, "hasNext", "(IIZ)Z"⟩
abbrev cX10_one : ByteArray := prog_12_method_79_code
def yX10_one : MethodName := ⟨RX10, "one", "(I)I"⟩
abbrev cX10_keeps : ByteArray := prog_12_method_80_code
def yX10_keeps : MethodName := ⟨RX10, "keeps", "(I)I"⟩
abbrev cX10_isSame : ByteArray := prog_12_method_81_code
def yX10_isSame : MethodName := ⟨RX10, "isSame", "(III)Z"⟩
abbrev cX10_spread : ByteArray := prog_12_method_82_code
def yX10_spread : MethodName := ⟨RX10, "spread", "(III)I"⟩
abbrev cX10_isSoBy : ByteArray := prog_12_method_83_code
def yX10_isSoBy : MethodName := ⟨RX10, "isSoBy", "(IIII)Z"⟩
abbrev cX10_nextMen : ByteArray := prog_12_method_84_code
def yX10_nextMen : MethodName := ⟨RX10, "nextMen", "(I)Z"⟩
abbrev cX10_otherMove : ByteArray := prog_12_method_85_code
def yX10_otherMove : MethodName := ⟨RX10, "otherMove", "(II)I"⟩
abbrev cX10_nextMoves : ByteArray := prog_12_method_86_code
def yX10_nextMoves : MethodName := ⟨RX10, "nextMoves", "(I)Z"⟩
abbrev cX10_glint : ByteArray := prog_12_method_87_code
def yX10_glint : MethodName := ⟨RX10, "glint", "(III)I"⟩
abbrev cX10_layGlint : ByteArray := prog_12_method_88_code
def yX10_layGlint : MethodName := ⟨RX10, "layGlint", "(I)I"⟩
abbrev cX10_cracks : ByteArray := prog_12_method_89_code
def yX10_cracks : MethodName := ⟨RX10, "cracks", "(III)I"⟩
abbrev cX10_layCracks : ByteArray := prog_12_method_90_code
def yX10_layCracks : MethodName := ⟨RX10, "layCracks", "(I)I"⟩
abbrev cX10_lies : ByteArray := prog_12_method_91_code
def yX10_lies : MethodName := ⟨RX10, "lies", "(I)I"⟩
abbrev cX10_sight : ByteArray := prog_12_method_92_code
def yX10_sight : MethodName := ⟨RX10, "sight", "(III)I"⟩
abbrev cX10_untell : ByteArray := prog_12_method_93_code
def yX10_untell : MethodName := ⟨RX10, "untell", "(I)Z"⟩
abbrev cX10_later : ByteArray := prog_12_method_94_code
def yX10_later : MethodName := ⟨RX10, "later", "(I)I"⟩
abbrev cX10_unsure : ByteArray := prog_12_method_95_code
def yX10_unsure : MethodName := ⟨RX10, "unsure", "(I)I"⟩
abbrev cX10_areSo : ByteArray := prog_12_method_96_code
def yX10_areSo : MethodName := ⟨RX10, "areSo", "(I)Z"⟩
abbrev cX10_layCase : ByteArray := prog_12_method_97_code
def yX10_layCase : MethodName := ⟨RX10, "layCase", "(I)V"⟩
abbrev cX10_fits : ByteArray := prog_12_method_98_code
def yX10_fits : MethodName := ⟨RX10, "fits", "(I)I"⟩
abbrev cX10_sure : ByteArray := prog_12_method_99_code
def yX10_sure : MethodName := ⟨RX10, "sure", "(II)I"⟩
abbrev cX10_isCase : ByteArray := prog_12_method_100_code
def yX10_isCase : MethodName := ⟨RX10, "isCase", "(I)Z"⟩
abbrev cX10_wrong : ByteArray := prog_12_method_101_code
def yX10_wrong : MethodName := ⟨RX10, "wrong", "(II)I"⟩
abbrev cX10_canCrack : ByteArray := prog_12_method_102_code
def yX10_canCrack : MethodName := ⟨RX10, "canCrack", "(II)Z"⟩
abbrev cX10_canSee : ByteArray := prog_12_method_103_code
def yX10_canSee : MethodName := ⟨RX10, "canSee", "(II)Z"⟩
abbrev cX10_image : ByteArray := prog_12_method_104_code
def yX10_image : MethodName := ⟨RX10, "image", "(I)I"⟩
abbrev cX10_back : ByteArray := prog_12_method_105_code
def yX10_back : MethodName := ⟨RX10, "back", "(I)I"⟩
abbrev cX10_about : ByteArray := prog_12_method_106_code
def yX10_about : MethodName := ⟨RX10, "about", "(I)I"⟩
abbrev cX10_feed : ByteArray := prog_12_method_107_code
def yX10_feed : MethodName := ⟨RX10, "feed", "(IIIII)I"⟩
abbrev cX10_end : ByteArray := prog_12_method_108_code
def yX10_end : MethodName := ⟨RX10, "end", "(I)I"⟩
def RJx145de : String := "java/io/Serializable"
def TJx145de : u_T := fun k => match k with
  | _ => ("", "", "", false)
def tyJx145de : Nat → FieldType := fun k => match k with
  | _ => .int
abbrev wsJx145de0 : List Cond := u_ws RJx145de TJx145de 0
theorem nmJx145de : ∀ a, a < 0 → ∀ b, b < 0 → a ≠ b → (TJx145de a).2.1 ≠ (TJx145de b).2.1 := by decide +kernel
theorem tyJx145de_ok : ∀ k, k < 0 → parseFieldDescriptor (TJx145de k).2.2.1 = some (tyJx145de k) := by decide +kernel
def RJx9f9b0 : String := "java/lang/CharSequence"
def TJx9f9b0 : u_T := fun k => match k with
  | _ => ("", "", "", false)
def tyJx9f9b0 : Nat → FieldType := fun k => match k with
  | _ => .int
abbrev wsJx9f9b00 : List Cond := u_ws RJx9f9b0 TJx9f9b0 0
theorem nmJx9f9b0 : ∀ a, a < 0 → ∀ b, b < 0 → a ≠ b → (TJx9f9b0 a).2.1 ≠ (TJx9f9b0 b).2.1 := by decide +kernel
theorem tyJx9f9b0_ok : ∀ k, k < 0 → parseFieldDescriptor (TJx9f9b0 k).2.2.1 = some (tyJx9f9b0 k) := by decide +kernel
def RJ11 : String := "java/lang/Character"
def TJ11 : u_T := fun k => match k with
  | _ => ("", "", "", false)
def tyJ11 : Nat → FieldType := fun k => match k with
  | _ => .int
abbrev wsJ110 : List Cond := u_ws RJ11 TJ11 0
theorem nmJ11 : ∀ a, a < 0 → ∀ b, b < 0 → a ≠ b → (TJ11 a).2.1 ≠ (TJ11 b).2.1 := by decide +kernel
theorem tyJ11_ok : ∀ k, k < 0 → parseFieldDescriptor (TJ11 k).2.2.1 = some (tyJ11 k) := by decide +kernel
abbrev cJ11_isValidCodePoint_9a6ad : ByteArray := prog_13_method_11_code
def yJ11_isValidCodePoint_9a6ad : MethodName := ⟨RJ11, "isValidCodePoint", "(I)Z"⟩
abbrev cJ11_highSurrogate_5068e : ByteArray := prog_13_method_28_code
def yJ11_highSurrogate_5068e : MethodName := ⟨RJ11, "highSurrogate", "(I)C"⟩
abbrev cJ11_lowSurrogate_5068e : ByteArray := prog_13_method_29_code
def yJ11_lowSurrogate_5068e : MethodName := ⟨RJ11, "lowSurrogate", "(I)C"⟩
def RJx8e188 : String := "java/lang/Cloneable"
def TJx8e188 : u_T := fun k => match k with
  | _ => ("", "", "", false)
def tyJx8e188 : Nat → FieldType := fun k => match k with
  | _ => .int
abbrev wsJx8e1880 : List Cond := u_ws RJx8e188 TJx8e188 0
theorem nmJx8e188 : ∀ a, a < 0 → ∀ b, b < 0 → a ≠ b → (TJx8e188 a).2.1 ≠ (TJx8e188 b).2.1 := by decide +kernel
theorem tyJx8e188_ok : ∀ k, k < 0 → parseFieldDescriptor (TJx8e188 k).2.2.1 = some (tyJx8e188 k) := by decide +kernel
def RJxb160c : String := "java/lang/Comparable"
def TJxb160c : u_T := fun k => match k with
  | _ => ("", "", "", false)
def tyJxb160c : Nat → FieldType := fun k => match k with
  | _ => .int
abbrev wsJxb160c0 : List Cond := u_ws RJxb160c TJxb160c 0
theorem nmJxb160c : ∀ a, a < 0 → ∀ b, b < 0 → a ≠ b → (TJxb160c a).2.1 ≠ (TJxb160c b).2.1 := by decide +kernel
theorem tyJxb160c_ok : ∀ k, k < 0 → parseFieldDescriptor (TJxb160c k).2.2.1 = some (tyJxb160c k) := by decide +kernel
def RJ6 : String := "java/lang/Integer"
def TJ6 : u_T := fun k => match k with
  | _ => ("", "", "", false)
def tyJ6 : Nat → FieldType := fun k => match k with
  | _ => .int
abbrev wsJ60 : List Cond := u_ws RJ6 TJ6 0
theorem nmJ6 : ∀ a, a < 0 → ∀ b, b < 0 → a ≠ b → (TJ6 a).2.1 ≠ (TJ6 b).2.1 := by decide +kernel
theorem tyJ6_ok : ∀ k, k < 0 → parseFieldDescriptor (TJ6 k).2.2.1 = some (tyJ6 k) := by decide +kernel
abbrev cJ6_bitCount_0f7a4 : ByteArray := prog_15_method_49_code
def yJ6_bitCount_0f7a4 : MethodName := ⟨RJ6, "bitCount", "(I)I"⟩
def RJ13 : String := "java/lang/Long"
def TJ13 : u_T := fun k => match k with
  | _ => ("", "", "", false)
def tyJ13 : Nat → FieldType := fun k => match k with
  | _ => .int
abbrev wsJ130 : List Cond := u_ws RJ13 TJ13 0
theorem nmJ13 : ∀ a, a < 0 → ∀ b, b < 0 → a ≠ b → (TJ13 a).2.1 ≠ (TJ13 b).2.1 := by decide +kernel
theorem tyJ13_ok : ∀ k, k < 0 → parseFieldDescriptor (TJ13 k).2.2.1 = some (tyJ13 k) := by decide +kernel
abbrev cJ13_bitCount_95d88 : ByteArray := prog_16_method_50_code
def yJ13_bitCount_95d88 : MethodName := ⟨RJ13, "bitCount", "(J)I"⟩
def RJ9 : String := "java/lang/Math"
def TJ9 : u_T := fun k => match k with
  | _ => ("", "", "", false)
def tyJ9 : Nat → FieldType := fun k => match k with
  | _ => .int
abbrev wsJ90 : List Cond := u_ws RJ9 TJ9 0
theorem nmJ9 : ∀ a, a < 0 → ∀ b, b < 0 → a ≠ b → (TJ9 a).2.1 ≠ (TJ9 b).2.1 := by decide +kernel
theorem tyJ9_ok : ∀ k, k < 0 → parseFieldDescriptor (TJ9 k).2.2.1 = some (tyJ9 k) := by decide +kernel
abbrev cJ9_floorMod_7cf53 : ByteArray := prog_17_method_50_code
def yJ9_floorMod_7cf53 : MethodName := ⟨RJ9, "floorMod", "(II)I"⟩
abbrev cJ9_abs_0f7a4 : ByteArray := prog_17_method_59_code
def yJ9_abs_0f7a4 : MethodName := ⟨RJ9, "abs", "(I)I"⟩
abbrev cJ9_max_7cf53 : ByteArray := prog_17_method_65_code
def yJ9_max_7cf53 : MethodName := ⟨RJ9, "max", "(II)I"⟩
abbrev cJ9_min_7cf53 : ByteArray := prog_17_method_69_code
def yJ9_min_7cf53 : MethodName := ⟨RJ9, "min", "(II)I"⟩
abbrev cJ9_min_f86c9 : ByteArray := prog_17_method_70_code
def yJ9_min_f86c9 : MethodName := ⟨RJ9, "min", "(JJ)J"⟩
def RJ0 : String := "java/lang/String"
def TJ0 : u_T := fun k => match k with
  | _ => ("", "", "", false)
def tyJ0 : Nat → FieldType := fun k => match k with
  | _ => .int
abbrev wsJ00 : List Cond := u_ws RJ0 TJ0 0
theorem nmJ0 : ∀ a, a < 0 → ∀ b, b < 0 → a ≠ b → (TJ0 a).2.1 ≠ (TJ0 b).2.1 := by decide +kernel
theorem tyJ0_ok : ∀ k, k < 0 → parseFieldDescriptor (TJ0 k).2.2.1 = some (tyJ0 k) := by decide +kernel
abbrev cJ0_length_8abf5 : ByteArray := prog_18_method_54_code
def yJ0_length_8abf5 : MethodName := ⟨RJ0, "length", "()I"⟩
abbrev cJ0_charAt_5068e : ByteArray := prog_18_method_56_code
def yJ0_charAt_5068e : MethodName := ⟨RJ0, "charAt", "(I)C"⟩
abbrev cJ0_indexOf_0f7a4 : ByteArray := prog_18_method_79_code
def yJ0_indexOf_0f7a4 : MethodName := ⟨RJ0, "indexOf", "(I)I"⟩
abbrev cJ0_indexOf_7cf53 : ByteArray := prog_18_method_80_code
def yJ0_indexOf_7cf53 : MethodName := ⟨RJ0, "indexOf", "(II)I"⟩
abbrev cJ0_coder_7d493 : ByteArray := prog_18_method_152_code
def yJ0_coder_7d493 : MethodName := ⟨RJ0, "coder", "()B"⟩
abbrev cJ0_isLatin1_aae02 : ByteArray := prog_18_method_154_code
def yJ0_isLatin1_aae02 : MethodName := ⟨RJ0, "isLatin1", "()Z"⟩
abbrev cJ0_checkIndex_df160 : ByteArray := prog_18_method_155_code
def yJ0_checkIndex_df160 : MethodName := ⟨RJ0, "checkIndex", "(II)V"⟩
abbrev cJ0_checkBoundsBeginEnd_23922 : ByteArray := prog_18_method_158_code
def yJ0_checkBoundsBeginEnd_23922 : MethodName := ⟨RJ0, "checkBoundsBeginEnd", "(III)V"⟩
def RJ1 : String := "java/lang/StringLatin1"
def TJ1 : u_T := fun k => match k with
  | _ => ("", "", "", false)
def tyJ1 : Nat → FieldType := fun k => match k with
  | _ => .int
abbrev wsJ10 : List Cond := u_ws RJ1 TJ1 0
theorem nmJ1 : ∀ a, a < 0 → ∀ b, b < 0 → a ≠ b → (TJ1 a).2.1 ≠ (TJ1 b).2.1 := by decide +kernel
theorem tyJ1_ok : ∀ k, k < 0 → parseFieldDescriptor (TJ1 k).2.2.1 = some (tyJ1 k) := by decide +kernel
abbrev cJ1_charAt_3b067 : ByteArray := prog_19_method_2_code
def yJ1_charAt_3b067 : MethodName := ⟨RJ1, "charAt", "([BI)C"⟩
abbrev cJ1_canEncode_9a6ad : ByteArray := prog_19_method_4_code
def yJ1_canEncode_9a6ad : MethodName := ⟨RJ1, "canEncode", "(I)Z"⟩
abbrev cJ1_indexOf_4cfef : ByteArray := prog_19_method_22_code
def yJ1_indexOf_4cfef : MethodName := ⟨RJ1, "indexOf", "([BIII)I"⟩
abbrev cJ1_indexOfChar_4cfef : ByteArray := prog_19_method_23_code
def yJ1_indexOfChar_4cfef : MethodName := ⟨RJ1, "indexOfChar", "([BIII)I"⟩
def RJ2 : String := "java/lang/StringUTF16"
def TJ2 : u_T := fun k => match k with
  | _ => ("", "", "", false)
def tyJ2 : Nat → FieldType := fun k => match k with
  | _ => .int
abbrev wsJ20 : List Cond := u_ws RJ2 TJ2 0
theorem nmJ2 : ∀ a, a < 0 → ∀ b, b < 0 → a ≠ b → (TJ2 a).2.1 ≠ (TJ2 b).2.1 := by decide +kernel
theorem tyJ2_ok : ∀ k, k < 0 → parseFieldDescriptor (TJ2 k).2.2.1 = some (tyJ2 k) := by decide +kernel
abbrev cJ2_getChar_3b067 : ByteArray := prog_20_method_5_code
def yJ2_getChar_3b067 : MethodName := ⟨RJ2, "getChar", "([BI)C"⟩
abbrev cJ2_length_9d52b : ByteArray := prog_20_method_6_code
def yJ2_length_9d52b : MethodName := ⟨RJ2, "length", "([B)I"⟩
abbrev cJ2_indexOf_4cfef : ByteArray := prog_20_method_40_code
def yJ2_indexOf_4cfef : MethodName := ⟨RJ2, "indexOf", "([BIII)I"⟩
abbrev cJ2_indexOfChar_4cfef : ByteArray := prog_20_method_47_code
def yJ2_indexOfChar_4cfef : MethodName := ⟨RJ2, "indexOfChar", "([BIII)I"⟩
abbrev cJ2_indexOfCharUnsafe_4cfef : ByteArray := prog_20_method_48_code
def yJ2_indexOfCharUnsafe_4cfef : MethodName := ⟨RJ2, "indexOfCharUnsafe", "([BIII)I"⟩
abbrev cJ2_indexOfSupplementary_4cfef : ByteArray := prog_20_method_49_code
def yJ2_indexOfSupplementary_4cfef : MethodName := ⟨RJ2, "indexOfSupplementary", "([BIII)I"⟩
abbrev cJ2_charAt_3b067 : ByteArray := prog_20_method_83_code
def yJ2_charAt_3b067 : MethodName := ⟨RJ2, "charAt", "([BI)C"⟩
abbrev cJ2_checkIndex_2214a : ByteArray := prog_20_method_91_code
def yJ2_checkIndex_2214a : MethodName := ⟨RJ2, "checkIndex", "(I[B)V"⟩
abbrev cJ2_checkBoundsBeginEnd_d044e : ByteArray := prog_20_method_93_code
def yJ2_checkBoundsBeginEnd_d044e : MethodName := ⟨RJ2, "checkBoundsBeginEnd", "(II[B)V"⟩
def RJ10 : String := "java/lang/System"
def TJ10 : u_T := fun k => match k with
  | _ => ("", "", "", false)
def tyJ10 : Nat → FieldType := fun k => match k with
  | _ => .int
abbrev wsJ100 : List Cond := u_ws RJ10 TJ10 0
theorem nmJ10 : ∀ a, a < 0 → ∀ b, b < 0 → a ≠ b → (TJ10 a).2.1 ≠ (TJ10 b).2.1 := by decide +kernel
theorem tyJ10_ok : ∀ k, k < 0 → parseFieldDescriptor (TJ10 k).2.2.1 = some (tyJ10 k) := by decide +kernel
def RJxfd54e : String := "java/lang/constant/Constable"
def TJxfd54e : u_T := fun k => match k with
  | _ => ("", "", "", false)
def tyJxfd54e : Nat → FieldType := fun k => match k with
  | _ => .int
abbrev wsJxfd54e0 : List Cond := u_ws RJxfd54e TJxfd54e 0
theorem nmJxfd54e : ∀ a, a < 0 → ∀ b, b < 0 → a ≠ b → (TJxfd54e a).2.1 ≠ (TJxfd54e b).2.1 := by decide +kernel
theorem tyJxfd54e_ok : ∀ k, k < 0 → parseFieldDescriptor (TJxfd54e k).2.2.1 = some (tyJxfd54e k) := by decide +kernel
def RJx3cf43 : String := "java/lang/constant/ConstantDesc"
def TJx3cf43 : u_T := fun k => match k with
  | _ => ("", "", "", false)
def tyJx3cf43 : Nat → FieldType := fun k => match k with
  | _ => .int
abbrev wsJx3cf430 : List Cond := u_ws RJx3cf43 TJx3cf43 0
theorem nmJx3cf43 : ∀ a, a < 0 → ∀ b, b < 0 → a ≠ b → (TJx3cf43 a).2.1 ≠ (TJx3cf43 b).2.1 := by decide +kernel
theorem tyJx3cf43_ok : ∀ k, k < 0 → parseFieldDescriptor (TJx3cf43 k).2.2.1 = some (tyJx3cf43 k) := by decide +kernel
def RJ7 : String := "java/util/Arrays"
def TJ7 : u_T := fun k => match k with
  | _ => ("", "", "", false)
def tyJ7 : Nat → FieldType := fun k => match k with
  | _ => .int
abbrev wsJ70 : List Cond := u_ws RJ7 TJ7 0
theorem nmJ7 : ∀ a, a < 0 → ∀ b, b < 0 → a ≠ b → (TJ7 a).2.1 ≠ (TJ7 b).2.1 := by decide +kernel
theorem tyJ7_ok : ∀ k, k < 0 → parseFieldDescriptor (TJ7 k).2.2.1 = some (tyJ7 k) := by decide +kernel
abbrev cJ7_fill_d0a16 : ByteArray := prog_22_method_101_code
def yJ7_fill_d0a16 : MethodName := ⟨RJ7, "fill", "([JJ)V"⟩
abbrev cJ7_fill_53178 : ByteArray := prog_22_method_103_code
def yJ7_fill_53178 : MethodName := ⟨RJ7, "fill", "([II)V"⟩
abbrev cJ7_copyOf_59c91 : ByteArray := prog_22_method_123_code
def yJ7_copyOf_59c91 : MethodName := ⟨RJ7, "copyOf", "([II)[I"⟩
def RJ3 : String := "jdk/internal/util/Preconditions"
def TJ3 : u_T := fun k => match k with
  | _ => ("", "", "", false)
def tyJ3 : Nat → FieldType := fun k => match k with
  | _ => .int
abbrev wsJ30 : List Cond := u_ws RJ3 TJ3 0
theorem nmJ3 : ∀ a, a < 0 → ∀ b, b < 0 → a ≠ b → (TJ3 a).2.1 ≠ (TJ3 b).2.1 := by decide +kernel
theorem tyJ3_ok : ∀ k, k < 0 → parseFieldDescriptor (TJ3 k).2.2.1 = some (tyJ3 k) := by decide +kernel
abbrev cJ3_checkIndex_8e157 : ByteArray := prog_23_method_11_code
def yJ3_checkIndex_8e157 : MethodName := ⟨RJ3, "checkIndex", "(IILjava/util/function/BiFunction;)I"⟩
abbrev cJ3_checkFromToIndex_8c36e : ByteArray := prog_23_method_12_code
def yJ3_checkFromToIndex_8c36e : MethodName := ⟨RJ3, "checkFromToIndex", "(IIILjava/util/function/BiFunction;)I"⟩
def RL : String := "MirrorDrillLaw"
abbrev cL_law : ByteArray := code
def yL_law : MethodName := ⟨RL, "law", "([I)Z"⟩
end
section
/-! my own words: one list of words for all methods, worlds before and behind a method, calls, returns -/
def BIG : List Cond := lw_tbl.filter goodWord
theorem big_hts {args : Array Value} {s : State} (h : ∀ w ∈ lw_tbl, w.before args s = true) : ∀ w ∈ BIG, w.before args s = true := fun w hw => h w (List.mem_filter.mp hw).1
theorem big_tab {w : Cond} (h : w ∈ tables_1) (g : goodWord w = true) : w ∈ BIG := List.mem_filter.mpr ⟨List.mem_append_right _ h, g⟩
theorem big_sel {q : MethodName × Nat} (h : q ∈ lw_privs) : Cond.selects q.1.cls q.1 q.1 ∈ BIG := List.mem_filter.mpr ⟨List.mem_append_left _ (List.mem_map.mpr ⟨q, h, rfl⟩), rfl⟩
theorem big_good : ∀ w ∈ BIG, (w.onTables && w.keeps) = true ∨ ∃ ty, w = .arrayClass ty := fun _ h => good_of_word (List.mem_filter.mp h).2
theorem big_in {ws : List Cond} (h : ∀ w ∈ ws, w ∈ BIG) : GoodIn BIG ws := fun w hw => ⟨h w hw, big_good w (h w hw)⟩
abbrev classes : List vw_C := [(RX0, TX0, 9), (RX1, TX1, 5), (RX2, TX2, 15), (RX3, TX3, 4), (RX4, TX4, 10), (RX5, TX5, 5), (RX6, TX6, 2), (RX7, TX7, 16), (RX8, TX8, 17), (RX9, TX9, 17), (RX10, TX10, 80)]
abbrev TYS (cyB cyI cyJ cyZ : ClassId) : List (ClassId × FieldType) := [(cyB, .byte), (cyI, .int), (cyJ, .long), (cyZ, .boolean)]
def rmK (d mc ms : Nat) : Room := { frames := d, cells := mc, slots := ms, locals := 60 * d }
def Pre (D : va_G) (ty : List (ClassId × FieldType)) (ws : va_W) (sz : Nat) (U : State) : Prop := U.heap.size = sz ∧ va_P D classes ws U.heap ∧ va_K D classes ty U ∧ va_D (fun _ => True) ws
def Aft (D : va_G) (A : Nat → Prop) (ws : va_W) (t : State) : Prop := va_P D classes ws t.heap ∧ va_D A ws
def Ctx (p : Program) (s : State) (m : MethodId) (meth : Method) (c : Code) (args : Array Value) (cc : ByteArray) (nL : Nat) (ret : Option FieldType) (own nm : String) : Prop :=
  p.tables.exec = Jvm.exec ∧ c.code = cc ∧ meth.sig.returnType = ret ∧ c.maxLocals = nL ∧ s.vm.findClass own = some m.cls ∧ (∀ w ∈ BIG, w.before args s = true) ∧ meth.locks = false ∧ meth.name = nm
theorem fmap_of {α : Type} {ws : List α} {is : List Nat} {wc : List α} (h : is.map (fun i => ws[i]?) = wc.map some) : is.filterMap (fun i => ws[i]?) = wc := by
  have h1 : is.filterMap (fun i => ws[i]?) = (is.map (fun i => ws[i]?)).filterMap id := by rw [List.filterMap_map]; rfl
  rw [h1, h, List.filterMap_map]
  induction wc with
  | nil => rfl
  | cons a t ih => simp
abbrev KI (l : Launch) (y : MethodName) (cc : ByteArray) (n : Nat) (ret : FieldType) (d mc ms : Nat) (D : va_G) (ty : List (ClassId × FieldType)) (ws : va_W) (sz : Nat) (av : List Value) {S : Type} (post : Int32 → S → Prop) (w1 : S → va_W) : Prop :=
  Met l y (.code y cc n (some ret) :: BIG) (rmK d mc ms) (va_Pc av (Pre D ty ws sz)) (va_Qi post (fun u => Aft D (va_A ws sz) (w1 u)) (va_A ws sz)) mc ms (va_A ws sz)
abbrev KL (l : Launch) (y : MethodName) (cc : ByteArray) (n : Nat) (d mc ms : Nat) (D : va_G) (ty : List (ClassId × FieldType)) (ws : va_W) (sz : Nat) (av : List Value) {S : Type} (post : Int64 → S → Prop) (w1 : S → va_W) : Prop :=
  Met l y (.code y cc n (some .long) :: BIG) (rmK d mc ms) (va_Pc av (Pre D ty ws sz)) (va_Ql post (fun u => Aft D (va_A ws sz) (w1 u)) (va_A ws sz)) mc ms (va_A ws sz)
abbrev KV (l : Launch) (y : MethodName) (cc : ByteArray) (n : Nat) (d mc ms : Nat) (D : va_G) (ty : List (ClassId × FieldType)) (ws : va_W) (sz : Nat) (av : List Value) {S : Type} (post : S → Prop) (w1 : S → va_W) : Prop :=
  Met l y (.code y cc n none :: BIG) (rmK d mc ms) (va_Pc av (Pre D ty ws sz)) (va_Qv post (fun u => Aft D (va_A ws sz) (w1 u)) (va_A ws sz)) mc ms (va_A ws sz)
theorem ent0 {l : Launch} {y : MethodName} {cc : ByteArray} {n : Nat} {ret : Option FieldType} {d mc ms : Nat} {D : va_G} {ty : List (ClassId × FieldType)} {ws : va_W} {sz : Nat} {av : List Value} {Qc : (Nat → Prop) → Array Value → State → Outcome → State → Prop} (hy : plainName y.cls = true) (hlen : (lg_sl av).length ≤ n)
    (body : ∀ (p : Program) (e : Env) (s : State) (m : MethodId) (below : List Frame) (meth : Method) (c : Code) (ls : Array Slot) (A : Nat → Prop), Ctx p s m meth c av.toArray cc n ret y.cls y.name → lv_has ls n (lv_args 0 av) → va_P D classes ws s.heap → va_K D classes ty s → va_D A ws → (∀ q, s.heap.size ≤ q → A q) →
      W p l e (rmK d mc ms) s m av.toArray below meth c s.heap [] 0 0 (MQ below (Qc A) av.toArray s mc ms A) (F0 m 0 ls [])) :
    Met l y (.code y cc n ret :: BIG) (rmK d mc ms) (va_Pc av (Pre D ty ws sz)) (Qc (va_A ws sz)) mc ms (va_A ws sz) := by
  refine Met.ofW (cc := cc) (maxL := n) (ret := ret) hy rfl ?_
  intro p e s m args below meth c s₁ B hml hv
  obtain ⟨rfl, hsz, hP, hK, hD0⟩ := hv
  have hts := atoms_spec (ws := .code y cc n ret :: BIG) B.pre
  have hl := lv_entry av (n := n) hlen
  rw [lg_entry_eq]
  subst hsz
  exact body p e s m below meth c _ (va_A ws s.heap.size) ⟨B.exec, B.bytes, B.returns, hml, findClass_of_methodNamed B.named, fun w h => hts w (List.mem_cons_of_mem _ h), B.notSynchronized, (name_of_methodNamed B.named B.method).1⟩ hl hP hK hD0.self (fun q h => Or.inr h)
theorem entI {l : Launch} {y : MethodName} {cc : ByteArray} {n : Nat} {ret : FieldType} {d mc ms : Nat} {D : va_G} {ty : List (ClassId × FieldType)} {ws : va_W} {sz : Nat} {av : List Value} {S : Type} {post : Int32 → S → Prop} {w1 : S → va_W} (hy : plainName y.cls = true) (hlen : (lg_sl av).length ≤ n)
    (body : ∀ (p : Program) (e : Env) (s : State) (m : MethodId) (below : List Frame) (meth : Method) (c : Code) (ls : Array Slot) (A : Nat → Prop), Ctx p s m meth c av.toArray cc n (some ret) y.cls y.name → lv_has ls n (lv_args 0 av) → va_P D classes ws s.heap → va_K D classes ty s → va_D A ws → (∀ q, s.heap.size ≤ q → A q) →
      W p l e (rmK d mc ms) s m av.toArray below meth c s.heap [] 0 0 (MQ below (va_Qi post (fun u => Aft D A (w1 u)) A) av.toArray s mc ms A) (F0 m 0 ls [])) : KI l y cc n ret d mc ms D ty ws sz av post w1 :=
  ent0 (Qc := fun A => va_Qi post (fun u => Aft D A (w1 u)) A) hy hlen body
theorem entL {l : Launch} {y : MethodName} {cc : ByteArray} {n : Nat} {d mc ms : Nat} {D : va_G} {ty : List (ClassId × FieldType)} {ws : va_W} {sz : Nat} {av : List Value} {S : Type} {post : Int64 → S → Prop} {w1 : S → va_W} (hy : plainName y.cls = true) (hlen : (lg_sl av).length ≤ n)
    (body : ∀ (p : Program) (e : Env) (s : State) (m : MethodId) (below : List Frame) (meth : Method) (c : Code) (ls : Array Slot) (A : Nat → Prop), Ctx p s m meth c av.toArray cc n (some .long) y.cls y.name → lv_has ls n (lv_args 0 av) → va_P D classes ws s.heap → va_K D classes ty s → va_D A ws → (∀ q, s.heap.size ≤ q → A q) →
      W p l e (rmK d mc ms) s m av.toArray below meth c s.heap [] 0 0 (MQ below (va_Ql post (fun u => Aft D A (w1 u)) A) av.toArray s mc ms A) (F0 m 0 ls [])) : KL l y cc n d mc ms D ty ws sz av post w1 :=
  ent0 (Qc := fun A => va_Ql post (fun u => Aft D A (w1 u)) A) hy hlen body
theorem entV {l : Launch} {y : MethodName} {cc : ByteArray} {n : Nat} {d mc ms : Nat} {D : va_G} {ty : List (ClassId × FieldType)} {ws : va_W} {sz : Nat} {av : List Value} {S : Type} {post : S → Prop} {w1 : S → va_W} (hy : plainName y.cls = true) (hlen : (lg_sl av).length ≤ n)
    (body : ∀ (p : Program) (e : Env) (s : State) (m : MethodId) (below : List Frame) (meth : Method) (c : Code) (ls : Array Slot) (A : Nat → Prop), Ctx p s m meth c av.toArray cc n none y.cls y.name → lv_has ls n (lv_args 0 av) → va_P D classes ws s.heap → va_K D classes ty s → va_D A ws → (∀ q, s.heap.size ≤ q → A q) →
      W p l e (rmK d mc ms) s m av.toArray below meth c s.heap [] 0 0 (MQ below (va_Qv post (fun u => Aft D A (w1 u)) A) av.toArray s mc ms A) (F0 m 0 ls [])) : KV l y cc n d mc ms D ty ws sz av post w1 :=
  ent0 (Qc := fun A => va_Qv post (fun u => Aft D A (w1 u)) A) hy hlen body
def CVw (y : MethodName) (bytes : ByteArray) (maxL : Nat) (ret : Option FieldType) (n : Nat) : Prop := Cond.instanceMethod y ∈ BIG ∧ Cond.selects y.cls y y ∈ BIG ∧ Cond.initialized y.cls ∈ BIG ∧ Cond.code y bytes maxL ret ∈ BIG ∧ (y.cls ≠ "java/lang/invoke/MethodHandle" ∧ y.cls ≠ "java/lang/invoke/VarHandle" ∧ (parseMethodDescriptor y.desc).map (fun d => d.parameters.length) = some n)
def CSw (y : MethodName) (bytes : ByteArray) (maxL : Nat) (ret : Option FieldType) (n : Nat) : Prop := Cond.static y ∈ BIG ∧ Cond.initialized y.cls ∈ BIG ∧ Cond.code y bytes maxL ret ∈ BIG ∧ (y.cls ≠ "java/lang/invoke/MethodHandle" ∧ y.cls ≠ "java/lang/invoke/VarHandle" ∧ (parseMethodDescriptor y.desc).map (fun d => d.parameters.length) = some n)
def CIw (y : MethodName) (bytes : ByteArray) (maxL : Nat) (n : Nat) : Prop := Cond.instanceMethod y ∈ BIG ∧ Cond.initialized y.cls ∈ BIG ∧ Cond.code y bytes maxL none ∈ BIG ∧ y.name = "<init>" ∧ (y.cls ≠ "java/lang/invoke/MethodHandle" ∧ y.cls ≠ "java/lang/invoke/VarHandle" ∧ (parseMethodDescriptor y.desc).map (fun d => d.parameters.length) = some n)
section CALLS
variable {p : Program} {l : Launch} {e : Env} {R : Room} {s : State} {m : MethodId} {args : Array Value} {below : List Frame} {meth : Method} {c : Code} {H H0 : Heap} {locs : List Loc} {cells slots : Nat} {Q : State → Prop} {cc : ByteArray} {nL pc idx : Nat} {own nm : String} {retO : Option FieldType} {ls : Array Slot} {D : va_G} {ty : List (ClassId × FieldType)} {A : Nat → Prop}
theorem pre_fb {wc : va_W} {sz : Nat} {av : List Value} : FrameBlind (va_Pc av (Pre D ty wc sz)) := fun a U g mk q => ⟨q.1, q.2.1, q.2.2.1, va_K.moved (u := U) (U := U.calling g mk a) (Vm.Alike.refl U.vm) q.2.2.2.1, q.2.2.2.2⟩
theorem pre_now {wc : va_W} {av : List Value} (hK : va_K D classes ty s) (hPc : va_P D classes wc H) (hDc : va_D A wc) : ∀ U : State, U.heap = H → s.WarmedH U.vm → va_Pc av (Pre D ty wc H.size) av.toArray U := fun U hU hW => ⟨rfl, by rw [hU], by rw [hU]; exact hPc, va_K.moved hW.alike hK, hDc.weaken (fun _ _ _ _ => trivial)⟩
theorem cb_in {y : MethodName} {bytes : ByteArray} {maxL d mc ms n : Nat} {ret : Option FieldType} (hts : ∀ w ∈ BIG, w.before args s = true) (w1 : Cond.methodLink own idx y ∈ BIG) (w4 : Cond.initialized y.cls ∈ BIG) (w5 : Cond.code y bytes maxL ret ∈ BIG)
    (hd : y.cls ≠ "java/lang/invoke/MethodHandle" ∧ y.cls ≠ "java/lang/invoke/VarHandle" ∧ (parseMethodDescriptor y.desc).map (fun d => d.parameters.length) = some n) (hR : d + 1 ≤ R.frames ∧ 8 + (maxL + 11) + 60 * d ≤ R.locals) :
    CallB R s args own idx y bytes maxL ret (.code y bytes maxL ret :: BIG) (rmK d mc ms) mc ms n :=
  callB_of n hts (big_in (fun w h => by rcases List.mem_cons.mp h with rfl | h; exact w5; exact h)) rfl rfl rfl (hts _ w4) (hts _ w1) hd hR
theorem runV {y : MethodName} {bytes : ByteArray} {maxL d mc ms n : Nat} {ret : Option FieldType} {Qc : Array Value → State → Outcome → State → Prop} {wc ws : va_W} {b : Nat} {As rest st : List Value}
    (hC : Ctx p s m meth c args cc nL retO own nm) (hK : va_K D classes ty s) (hP : va_P D classes ws H) (hD : va_D A ws) (hls : ls.size = nL)
    (hM : Met l y (.code y bytes maxL ret :: BIG) (rmK d mc ms) (va_Pc (.ref b :: As) (Pre D ty wc H.size)) Qc mc ms (va_A wc H.size)) (cv : CVw y bytes maxL ret n) (w1 : Cond.methodLink own idx y ∈ BIG)
    (isC : List Nat) (hCw : isC.map (fun i => ws[i]?) = wc.map some) (hnd : va_nd isC = true) (q0 : Nat) {ci : Nat} {q : vw_C} {fs : List Value} (he : ws[q0]? = some (b, .inr (ci, fs))) (hc : classes[ci]? = some q) (hq : q.1 = y.cls)
    (hn : As.length = n) (hst : st = As.reverse ++ .ref b :: rest) (hW : (rest.map fun v => v.category).sum ≤ 8) (hR : d + 1 ≤ R.frames ∧ 8 + (maxL + 11) + 60 * d ≤ R.locals) (hf : cells + mc ≤ R.cells ∧ slots + ms ≤ R.slots) (hdg : decode cc pc = .ok (.invokevirtual idx, 3)) :
    va_Run p l e R s m args below meth c H locs cells slots mc ms (F0 m pc ls st) rest (Qc (Value.ref b :: As).toArray) (va_A wc H.size) := by
  obtain ⟨hx, hb, -, hml, hown, hts, -, -⟩ := hC
  obtain ⟨v1, v2, v3, v4, v5⟩ := cv
  have hr := va_recv hK hP hc he
  rw [hq] at hr
  exact va_runV (C := y.cls) ⟨hx, hb, hml, hown, hts⟩ hM ⟨cb_in hts w1 v3 v4 v5 hR, hts _ v1, hts _ v2⟩ ⟨pre_fb, hr, pre_now hK (hP.sub isC (fmap_of hCw)) (hD.sub isC hnd hCw)⟩ rfl hn hls hst (lv_room hW) hdg hf
theorem runS {y : MethodName} {bytes : ByteArray} {maxL d mc ms n : Nat} {ret : Option FieldType} {Qc : Array Value → State → Outcome → State → Prop} {wc ws : va_W} {As rest st : List Value}
    (hC : Ctx p s m meth c args cc nL retO own nm) (hK : va_K D classes ty s) (hP : va_P D classes ws H) (hD : va_D A ws) (hls : ls.size = nL)
    (hM : Met l y (.code y bytes maxL ret :: BIG) (rmK d mc ms) (va_Pc As (Pre D ty wc H.size)) Qc mc ms (va_A wc H.size)) (cv : CSw y bytes maxL ret n) (w1 : Cond.methodLink own idx y ∈ BIG)
    (isC : List Nat) (hCw : isC.map (fun i => ws[i]?) = wc.map some) (hnd : va_nd isC = true)
    (hn : As.length = n) (hst : st = As.reverse ++ rest) (hW : (rest.map fun v => v.category).sum ≤ 8) (hR : d + 1 ≤ R.frames ∧ 8 + (maxL + 11) + 60 * d ≤ R.locals) (hf : cells + mc ≤ R.cells ∧ slots + ms ≤ R.slots) (hdg : decode cc pc = .ok (.invokestatic idx, 3)) :
    va_Run p l e R s m args below meth c H locs cells slots mc ms (F0 m pc ls st) rest (Qc As.toArray) (va_A wc H.size) := by
  obtain ⟨hx, hb, -, hml, hown, hts, -, -⟩ := hC
  obtain ⟨v1, v3, v4, v5⟩ := cv
  exact va_runS ⟨hx, hb, hml, hown, hts⟩ hM ⟨cb_in hts w1 v3 v4 v5 hR, hts _ v1⟩ ⟨pre_fb, pre_now hK (hP.sub isC (fmap_of hCw)) (hD.sub isC hnd hCw)⟩ rfl hn hls hst (lv_room hW) hdg hf
theorem runI {y : MethodName} {bytes : ByteArray} {maxL d mc ms n : Nat} {Qc : Array Value → State → Outcome → State → Prop} {wc ws : va_W} {b : Nat} {As rest st : List Value}
    (hC : Ctx p s m meth c args cc nL retO own nm) (hK : va_K D classes ty s) (hP : va_P D classes ws H) (hD : va_D A ws) (hls : ls.size = nL)
    (hM : Met l y (.code y bytes maxL none :: BIG) (rmK d mc ms) (va_Pc (.ref b :: As) (Pre D ty wc H.size)) Qc mc ms (va_A wc H.size)) (cv : CIw y bytes maxL n) (w1 : Cond.methodLink own idx y ∈ BIG)
    (isC : List Nat) (hCw : isC.map (fun i => ws[i]?) = wc.map some) (hnd : va_nd isC = true)
    (hn : As.length = n) (hst : st = As.reverse ++ .ref b :: rest) (hW : (rest.map fun v => v.category).sum ≤ 8) (hR : d + 1 ≤ R.frames ∧ 8 + (maxL + 11) + 60 * d ≤ R.locals) (hf : cells + mc ≤ R.cells ∧ slots + ms ≤ R.slots) (hdg : decode cc pc = .ok (.invokespecial idx, 3)) :
    va_Run p l e R s m args below meth c H locs cells slots mc ms (F0 m pc ls st) rest (Qc (Value.ref b :: As).toArray) (va_A wc H.size) := by
  obtain ⟨hx, hb, -, hml, hown, hts, -, -⟩ := hC
  obtain ⟨v1, v3, v4, v6, v5⟩ := cv
  exact va_runI ⟨hx, hb, hml, hown, hts⟩ hM ⟨cb_in hts w1 v3 v4 v5 hR, v6, hts _ v1⟩ ⟨pre_fb, pre_now hK (hP.sub isC (fmap_of hCw)) (hD.sub isC hnd hCw)⟩ rfl hn hls hst (lv_room hW) hdg hf
theorem aftI {S : Type} {post : Int32 → S → Prop} {w1 : S → va_W} {wc wr ws : va_W} {a : Array Value} {rest st : List Value} {mc ms : Nat}
    (hr : va_Run p l e R s m args below meth c H locs cells slots mc ms (F0 m pc ls st) rest (va_Qi post (fun u => Aft D (va_A wc H.size) (w1 u)) (va_A wc H.size) a) (va_A wc H.size))
    (hP : va_P D classes ws H) (hD : va_D A ws) (hS : va_S A H0 H locs) (hA : ∀ q, H0.size ≤ q → A q) (isC isR : List Nat) (hCw : isC.map (fun i => ws[i]?) = wc.map some) (hRw : isR.map (fun i => ws[i]?) = wr.map some) (hn : va_nd isR = true) (hdis : ∀ i ∈ isR, i ∉ isC)
    (kk : ∀ (r : Int32) (u : S) (H1 : Heap) (locs1 : List Loc), post r u → va_P D classes (wr ++ w1 u) H1 → va_D A (wr ++ w1 u) → va_S A H0 H1 locs1 → W p l e R s m args below meth c H1 locs1 (cells + mc) (slots + ms) Q (F0 m (pc + 3) ls (.int r :: rest))) : W p l e R s m args below meth c H locs cells slots Q (F0 m pc ls st) := by
  have hFc := va_free (wc := wc) hD hS hA isC hCw
  refine va_calli hr hS (fun q _ h => hFc q h) hFc (fun r u t H1 locs ht hvm hw hB hz1 hk1 hS => ?_)
  obtain ⟨hP1, hD1⟩ := hB
  rw [ht] at hP1
  obtain ⟨hP2, hD2⟩ := va_join (wr := wr) (w1 := w1 u) hP hD isC isR hCw hRw hn hdis hk1 hFc hP1 hD1
  exact kk r u H1 locs hw hP2 hD2 hS
theorem aftL {S : Type} {post : Int64 → S → Prop} {w1 : S → va_W} {wc wr ws : va_W} {a : Array Value} {rest st : List Value} {mc ms : Nat}
    (hr : va_Run p l e R s m args below meth c H locs cells slots mc ms (F0 m pc ls st) rest (va_Ql post (fun u => Aft D (va_A wc H.size) (w1 u)) (va_A wc H.size) a) (va_A wc H.size))
    (hP : va_P D classes ws H) (hD : va_D A ws) (hS : va_S A H0 H locs) (hA : ∀ q, H0.size ≤ q → A q) (isC isR : List Nat) (hCw : isC.map (fun i => ws[i]?) = wc.map some) (hRw : isR.map (fun i => ws[i]?) = wr.map some) (hn : va_nd isR = true) (hdis : ∀ i ∈ isR, i ∉ isC)
    (kk : ∀ (r : Int64) (u : S) (H1 : Heap) (locs1 : List Loc), post r u → va_P D classes (wr ++ w1 u) H1 → va_D A (wr ++ w1 u) → va_S A H0 H1 locs1 → W p l e R s m args below meth c H1 locs1 (cells + mc) (slots + ms) Q (F0 m (pc + 3) ls (.long r :: rest))) : W p l e R s m args below meth c H locs cells slots Q (F0 m pc ls st) := by
  have hFc := va_free (wc := wc) hD hS hA isC hCw
  refine va_calll hr hS (fun q _ h => hFc q h) hFc (fun r u t H1 locs ht hvm hw hB hz1 hk1 hS => ?_)
  obtain ⟨hP1, hD1⟩ := hB
  rw [ht] at hP1
  obtain ⟨hP2, hD2⟩ := va_join (wr := wr) (w1 := w1 u) hP hD isC isR hCw hRw hn hdis hk1 hFc hP1 hD1
  exact kk r u H1 locs hw hP2 hD2 hS
theorem aftV {S : Type} {post : S → Prop} {w1 : S → va_W} {wc wr ws : va_W} {a : Array Value} {rest st : List Value} {mc ms : Nat}
    (hr : va_Run p l e R s m args below meth c H locs cells slots mc ms (F0 m pc ls st) rest (va_Qv post (fun u => Aft D (va_A wc H.size) (w1 u)) (va_A wc H.size) a) (va_A wc H.size))
    (hP : va_P D classes ws H) (hD : va_D A ws) (hS : va_S A H0 H locs) (hA : ∀ q, H0.size ≤ q → A q) (isC isR : List Nat) (hCw : isC.map (fun i => ws[i]?) = wc.map some) (hRw : isR.map (fun i => ws[i]?) = wr.map some) (hn : va_nd isR = true) (hdis : ∀ i ∈ isR, i ∉ isC)
    (kk : ∀ (u : S) (H1 : Heap) (locs1 : List Loc), post u → va_P D classes (wr ++ w1 u) H1 → va_D A (wr ++ w1 u) → va_S A H0 H1 locs1 → W p l e R s m args below meth c H1 locs1 (cells + mc) (slots + ms) Q (F0 m (pc + 3) ls rest)) : W p l e R s m args below meth c H locs cells slots Q (F0 m pc ls st) := by
  have hFc := va_free (wc := wc) hD hS hA isC hCw
  refine va_callv hr hS (fun q _ h => hFc q h) hFc (fun u t H1 locs ht hvm hw hB hz1 hk1 hS => ?_)
  obtain ⟨hP1, hD1⟩ := hB
  rw [ht] at hP1
  obtain ⟨hP2, hD2⟩ := va_join (wr := wr) (w1 := w1 u) hP hD isC isR hCw hRw hn hdis hk1 hFc hP1 hD1
  exact kk u H1 locs hw hP2 hD2 hS
theorem retI {S : Type} {post : Int32 → S → Prop} {w1 : S → va_W} {ws : va_W} {v : Int32} {mc ms : Nat} (hC : Ctx p s m meth c args cc nL (some .int) own nm) (hP : va_P D classes ws H) (hD : va_D A ws) (hS : va_S A s.heap H locs) (hc : cells ≤ mc) (hs : slots ≤ ms) (u : S) (is : List Nat) (hi : is.map (fun i => ws[i]?) = (w1 u).map some) (hn : va_nd is = true) (hp : post v u) (hdg : decode cc pc = .ok (.ireturn, 1)) :
    W p l e R s m args below meth c H locs cells slots (MQ below (va_Qi post (fun u => Aft D A (w1 u)) A) args s mc ms A) (F0 m pc ls [.int v]) := by
  obtain ⟨hx, hb, hr, -, -, -, hlk, -⟩ := hC
  exact W.widen hc hs (W.iret (v := v) hx hb hr (fun t ht _ => ⟨⟨v, u, rfl, hp, by rw [ht]; exact hP.sub is (fmap_of hi), hD.sub is hn hi⟩, hS.F ht⟩) hS.2.2 hdg hlk)
theorem retZ {S : Type} {post : Int32 → S → Prop} {w1 : S → va_W} {ws : va_W} {v : Int32} {mc ms : Nat} (hC : Ctx p s m meth c args cc nL (some .boolean) own nm) (hP : va_P D classes ws H) (hD : va_D A ws) (hS : va_S A s.heap H locs) (hc : cells ≤ mc) (hs : slots ≤ ms) (u : S) (is : List Nat) (hi : is.map (fun i => ws[i]?) = (w1 u).map some) (hn : va_nd is = true) (hp : post v u) (hnar : narrow .boolean (.int v) = .int v) (hdg : decode cc pc = .ok (.ireturn, 1)) :
    W p l e R s m args below meth c H locs cells slots (MQ below (va_Qi post (fun u => Aft D A (w1 u)) A) args s mc ms A) (F0 m pc ls [.int v]) := by
  obtain ⟨hx, hb, hr, -, -, -, hlk, -⟩ := hC
  exact W.widen hc hs (W.zret (v := v) hx hb hr hnar (fun t ht _ => ⟨⟨v, u, rfl, hp, by rw [ht]; exact hP.sub is (fmap_of hi), hD.sub is hn hi⟩, hS.F ht⟩) hS.2.2 hdg hlk)
theorem retL {S : Type} {post : Int64 → S → Prop} {w1 : S → va_W} {ws : va_W} {v : Int64} {mc ms : Nat} (hC : Ctx p s m meth c args cc nL (some .long) own nm) (hP : va_P D classes ws H) (hD : va_D A ws) (hS : va_S A s.heap H locs) (hc : cells ≤ mc) (hs : slots ≤ ms) (u : S) (is : List Nat) (hi : is.map (fun i => ws[i]?) = (w1 u).map some) (hn : va_nd is = true) (hp : post v u) (hdg : decode cc pc = .ok (.lreturn, 1)) :
    W p l e R s m args below meth c H locs cells slots (MQ below (va_Ql post (fun u => Aft D A (w1 u)) A) args s mc ms A) (F0 m pc ls [.long v]) := by
  obtain ⟨hx, hb, hr, -, -, -, hlk, -⟩ := hC
  exact W.widen hc hs (W.lret (v := v) hx hb hr (fun t ht _ => ⟨⟨v, u, rfl, hp, by rw [ht]; exact hP.sub is (fmap_of hi), hD.sub is hn hi⟩, hS.F ht⟩) hS.2.2 hdg hlk)
theorem retV {S : Type} {post : S → Prop} {w1 : S → va_W} {ws : va_W} {mc ms : Nat} (hC : Ctx p s m meth c args cc nL none own nm) (hP : va_P D classes ws H) (hD : va_D A ws) (hS : va_S A s.heap H locs) (hc : cells ≤ mc) (hs : slots ≤ ms) (u : S) (is : List Nat) (hi : is.map (fun i => ws[i]?) = (w1 u).map some) (hn : va_nd is = true) (hp : post u) (hdg : decode cc pc = .ok (.return_, 1)) :
    W p l e R s m args below meth c H locs cells slots (MQ below (va_Qv post (fun u => Aft D A (w1 u)) A) args s mc ms A) (F0 m pc ls []) := by
  obtain ⟨hx, hb, hr, -, -, -, hlk, -⟩ := hC
  exact W.widen hc hs (W.vret hx hb hr (fun t ht _ => ⟨⟨u, rfl, hp, by rw [ht]; exact hP.sub is (fmap_of hi), hD.sub is hn hi⟩, hS.F ht⟩) hS.2.2 hdg hlk)
theorem gf {ws : va_W} {a : Nat} {rest : List Value} {C : String} {T : u_T} {N ci : Nat} {fs : List Value} {v : Value} (hC : Ctx p s m meth c args cc nL retO own nm) (hK : va_K D classes ty s) (hP : va_P D classes ws H) (hin : ∀ w ∈ u_ws C T N, w ∈ BIG) (q0 : Nat) (he : ws[q0]? = some (a, .inr (ci, fs))) (hc : classes[ci]? = some (C, T, N)) (k : Nat) (hk : k < N) (hl : Cond.fieldLink own idx (T k).1 (T k).2.1 (T k).2.2.1 ∈ BIG) (hv : fs[k]? = some v) (hdg : decode cc pc = .ok (.getfield idx, 3))
    (kk : W p l e R s m args below meth c H locs cells slots Q (F0 m (pc + 3) ls (v :: rest))) : W p l e R s m args below meth c H locs cells slots Q (F0 m pc ls (.ref a :: rest)) := by
  obtain ⟨hx, hb, -, -, hown, hts, -, -⟩ := hC
  exact va_get hx hb hts hin hown hK hP q0 he hc k hk (hts _ hl) (fun _ h => h) hv hdg kk
theorem pf {ws : va_W} {a : Nat} {rest : List Value} {C : String} {T : u_T} {N ci : Nat} {fs : List Value} {v : Value} (hC : Ctx p s m meth c args cc nL retO own nm) (hK : va_K D classes ty s) (hP : va_P D classes ws H) (hD : va_D A ws) (hS : va_S A H0 H locs) (hin : ∀ w ∈ u_ws C T N, w ∈ BIG) {ty0 : Nat → FieldType} (hty : ∀ k, k < N → parseFieldDescriptor (T k).2.2.1 = some (ty0 k)) (hnm : ∀ a, a < N → ∀ b, b < N → a ≠ b → (T a).2.1 ≠ (T b).2.1) (q0 : Nat) (he : ws[q0]? = some (a, .inr (ci, fs))) (hc : classes[ci]? = some (C, T, N)) (k : Nat) (hk : k < N) (hl : Cond.fieldLink own idx (T k).1 (T k).2.1 (T k).2.2.1 ∈ BIG) (hfin : (T k).2.2.2 = false) (hn : narrow (ty0 k) v = v) (hfit : fits (ty0 k) v = true) (hlen : k < fs.length) (hdg : decode cc pc = .ok (.putfield idx, 3))
    (kk : ∀ (H1 : Heap) (locs1 : List Loc), va_P D classes (ws.set q0 (a, .inr (ci, fs.set k v))) H1 → va_D A (ws.set q0 (a, .inr (ci, fs.set k v))) → va_S A H0 H1 locs1 → W p l e R s m args below meth c H1 locs1 cells slots Q (F0 m (pc + 3) ls rest)) : W p l e R s m args below meth c H locs cells slots Q (F0 m pc ls (v :: .ref a :: rest)) := by
  obtain ⟨hx, hb, -, -, hown, hts, -, -⟩ := hC
  exact va_put hx hb hts hin ty0 hty hnm hown hK hP hD hS q0 he hc k hk (hts _ hl) (fun _ h => h) hfin (hty k hk) hn hfit hlen hdg kk
theorem pfF {ws : va_W} {a : Nat} {rest : List Value} {C : String} {T : u_T} {N ci : Nat} {fs : List Value} {v : Value} (hC : Ctx p s m meth c args cc nL retO own "<init>") (hK : va_K D classes ty s) (hP : va_P D classes ws H) (hD : va_D A ws) (hS : va_S A H0 H locs) (hin : ∀ w ∈ u_ws C T N, w ∈ BIG) {ty0 : Nat → FieldType} (hty : ∀ k, k < N → parseFieldDescriptor (T k).2.2.1 = some (ty0 k)) (hnm : ∀ a, a < N → ∀ b, b < N → a ≠ b → (T a).2.1 ≠ (T b).2.1) (q0 : Nat) (he : ws[q0]? = some (a, .inr (ci, fs))) (hc : classes[ci]? = some (C, T, N)) (k : Nat) (hk : k < N) (hl : Cond.fieldLink own idx (T k).1 (T k).2.1 (T k).2.2.1 ∈ BIG) (hfin : (T k).2.2.2 = true) (hdecl : (T k).1 = own) (hn : narrow (ty0 k) v = v) (hfit : fits (ty0 k) v = true) (hlen : k < fs.length) (hdg : decode cc pc = .ok (.putfield idx, 3))
    (kk : ∀ (H1 : Heap) (locs1 : List Loc), va_P D classes (ws.set q0 (a, .inr (ci, fs.set k v))) H1 → va_D A (ws.set q0 (a, .inr (ci, fs.set k v))) → va_S A H0 H1 locs1 → W p l e R s m args below meth c H1 locs1 cells slots Q (F0 m (pc + 3) ls rest)) : W p l e R s m args below meth c H locs cells slots Q (F0 m pc ls (v :: .ref a :: rest)) := by
  obtain ⟨hx, hb, -, -, hown, hts, -, hnm2⟩ := hC
  exact va_putF hx hb hts hin ty0 hty hnm hown hK hP hD hS q0 he hc k hk (hts _ hl) (fun _ h => h) hfin hnm2 hdecl (hty k hk) hn hfit hlen hdg kk
theorem lv_cst {x v : Int32} {rest : List Value} (h : x = v) (k : W p l e R s m args below meth c H locs cells slots Q (F0 m pc ls (.int v :: rest))) : W p l e R s m args below meth c H locs cells slots Q (F0 m pc ls (.int x :: rest)) := h ▸ k
theorem lv_cstL {x v : Int64} {rest : List Value} (h : x = v) (k : W p l e R s m args below meth c H locs cells slots Q (F0 m pc ls (.long v :: rest))) : W p l e R s m args below meth c H locs cells slots Q (F0 m pc ls (.long x :: rest)) := h ▸ k
end CALLS
theorem gs_eq {fs : List Value} {k : Nat} {v : Value} (h : k < fs.length) : (fs.set k v)[k]? = some v := by rw [List.getElem?_set_self h]
theorem gs_ne {fs : List Value} {j k : Nat} {v : Value} {o : Option Value} (h : k ≠ j) (hj : fs[j]? = o) : (fs.set k v)[j]? = o := by rw [List.getElem?_set_ne h]; exact hj
theorem ln_set {fs : List Value} {k N : Nat} {v : Value} (h : fs.length = N) : (fs.set k v).length = N := by rw [List.length_set]; exact h
theorem ln_lt {fs : List Value} {k N : Nat} (h : fs.length = N) (hk : k < N) : k < fs.length := by rw [h]; exact hk
section NEWS
variable {p : Program} {l : Launch} {e : Env} {R : Room} {s : State} {m : MethodId} {args : Array Value} {below : List Frame} {meth : Method} {c : Code} {H H0 : Heap} {locs : List Loc} {cells slots : Nat} {Q : State → Prop} {cc : ByteArray} {nL pc idx : Nat} {own nm : String} {retO : Option FieldType} {ls : Array Slot} {D : va_G} {A : Nat → Prop} {cyB cyI cyJ cyZ : ClassId} {ws : va_W} {n : Int32} {N : Nat} {rest : List Value}
theorem nwI (hC : Ctx p s m meth c args cc nL retO own nm) (hw : Cond.arrayClass .int ∈ BIG) (hK : va_K D classes (TYS cyB cyI cyJ cyZ) s) (hP : va_P D classes ws H) (hD : va_D A ws) (hS : va_S A H0 H locs) (hA : ∀ q, H0.size ≤ q → A q) (hn : ¬ n < 0) (hN : n.toNatClampNeg = N) (hbytes : N * componentBytes .int ≤ 536870912) (hcells : cells + 1 ≤ R.cells) (hslots : slots + N ≤ R.slots) (hdg : decode cc pc = .ok (.newarray .int, 2)) 
    (kk : ∀ (q : Nat) (H1 : Heap), va_P D classes (ws ++ [(q, .inl (cyI, N, .inl (fun _ => 0)))]) H1 → va_D A (ws ++ [(q, .inl (cyI, N, .inl (fun _ => 0)))]) → va_S A H0 H1 locs → W p l e R s m args below meth c H1 locs (cells + 1) (slots + N) Q (F0 m (pc + 2) ls (.ref q :: rest))) : W p l e R s m args below meth c H locs cells slots Q (F0 m pc ls (.int n :: rest)) := by
  obtain ⟨hx, hb, -, -, hown, hts, -, -⟩ := hC
  refine va_newa (atype := .int) hx hb (hts _ hw) rfl hK hP hD hS hA (a0 := (N, .inl (fun _ => 0))) (fun _ => rfl) hn hN hbytes hcells hslots hdg (fun q cA H1 hK1 hP1 hD1 hS1 => ?_)
  have h1 := (hK1.2 4 (cA, .int) rfl).2
  have h2 := (hK1.2 1 (cyI, .int) rfl).2
  have h3 : cA = cyI := Option.some.inj (h1.symm.trans h2)
  subst h3
  exact kk q H1 hP1 hD1 hS1
theorem nwB (hC : Ctx p s m meth c args cc nL retO own nm) (hw : Cond.arrayClass .byte ∈ BIG) (hK : va_K D classes (TYS cyB cyI cyJ cyZ) s) (hP : va_P D classes ws H) (hD : va_D A ws) (hS : va_S A H0 H locs) (hA : ∀ q, H0.size ≤ q → A q) (hn : ¬ n < 0) (hN : n.toNatClampNeg = N) (hbytes : N * componentBytes .byte ≤ 536870912) (hcells : cells + 1 ≤ R.cells) (hslots : slots + N ≤ R.slots) (hdg : decode cc pc = .ok (.newarray .byte, 2)) 
    (kk : ∀ (q : Nat) (H1 : Heap), va_P D classes (ws ++ [(q, .inl (cyB, N, .inl (fun _ => 0)))]) H1 → va_D A (ws ++ [(q, .inl (cyB, N, .inl (fun _ => 0)))]) → va_S A H0 H1 locs → W p l e R s m args below meth c H1 locs (cells + 1) (slots + N) Q (F0 m (pc + 2) ls (.ref q :: rest))) : W p l e R s m args below meth c H locs cells slots Q (F0 m pc ls (.int n :: rest)) := by
  obtain ⟨hx, hb, -, -, hown, hts, -, -⟩ := hC
  refine va_newa (atype := .byte) hx hb (hts _ hw) rfl hK hP hD hS hA (a0 := (N, .inl (fun _ => 0))) (fun _ => rfl) hn hN hbytes hcells hslots hdg (fun q cA H1 hK1 hP1 hD1 hS1 => ?_)
  have h1 := (hK1.2 4 (cA, .byte) rfl).2
  have h2 := (hK1.2 0 (cyB, .byte) rfl).2
  have h3 : cA = cyB := Option.some.inj (h1.symm.trans h2)
  subst h3
  exact kk q H1 hP1 hD1 hS1
theorem nwZ (hC : Ctx p s m meth c args cc nL retO own nm) (hw : Cond.arrayClass .boolean ∈ BIG) (hK : va_K D classes (TYS cyB cyI cyJ cyZ) s) (hP : va_P D classes ws H) (hD : va_D A ws) (hS : va_S A H0 H locs) (hA : ∀ q, H0.size ≤ q → A q) (hn : ¬ n < 0) (hN : n.toNatClampNeg = N) (hbytes : N * componentBytes .boolean ≤ 536870912) (hcells : cells + 1 ≤ R.cells) (hslots : slots + N ≤ R.slots) (hdg : decode cc pc = .ok (.newarray .boolean, 2)) 
    (kk : ∀ (q : Nat) (H1 : Heap), va_P D classes (ws ++ [(q, .inl (cyZ, N, .inl (fun _ => 0)))]) H1 → va_D A (ws ++ [(q, .inl (cyZ, N, .inl (fun _ => 0)))]) → va_S A H0 H1 locs → W p l e R s m args below meth c H1 locs (cells + 1) (slots + N) Q (F0 m (pc + 2) ls (.ref q :: rest))) : W p l e R s m args below meth c H locs cells slots Q (F0 m pc ls (.int n :: rest)) := by
  obtain ⟨hx, hb, -, -, hown, hts, -, -⟩ := hC
  refine va_newa (atype := .boolean) hx hb (hts _ hw) rfl hK hP hD hS hA (a0 := (N, .inl (fun _ => 0))) (fun _ => rfl) hn hN hbytes hcells hslots hdg (fun q cA H1 hK1 hP1 hD1 hS1 => ?_)
  have h1 := (hK1.2 4 (cA, .boolean) rfl).2
  have h2 := (hK1.2 3 (cyZ, .boolean) rfl).2
  have h3 : cA = cyZ := Option.some.inj (h1.symm.trans h2)
  subst h3
  exact kk q H1 hP1 hD1 hS1
theorem nwJ (hC : Ctx p s m meth c args cc nL retO own nm) (hw : Cond.arrayClass .long ∈ BIG) (hK : va_K D classes (TYS cyB cyI cyJ cyZ) s) (hP : va_P D classes ws H) (hD : va_D A ws) (hS : va_S A H0 H locs) (hA : ∀ q, H0.size ≤ q → A q) (hn : ¬ n < 0) (hN : n.toNatClampNeg = N) (hbytes : N * componentBytes .long ≤ 536870912) (hcells : cells + 1 ≤ R.cells) (hslots : slots + N ≤ R.slots) (hdg : decode cc pc = .ok (.newarray .long, 2)) 
    (kk : ∀ (q : Nat) (H1 : Heap), va_P D classes (ws ++ [(q, .inl (cyJ, N, .inr (.inl (fun _ => 0))))]) H1 → va_D A (ws ++ [(q, .inl (cyJ, N, .inr (.inl (fun _ => 0))))]) → va_S A H0 H1 locs → W p l e R s m args below meth c H1 locs (cells + 1) (slots + N) Q (F0 m (pc + 2) ls (.ref q :: rest))) : W p l e R s m args below meth c H locs cells slots Q (F0 m pc ls (.int n :: rest)) := by
  obtain ⟨hx, hb, -, -, hown, hts, -, -⟩ := hC
  refine va_newa (atype := .long) hx hb (hts _ hw) rfl hK hP hD hS hA (a0 := (N, .inr (.inl (fun _ => 0)))) (fun _ => rfl) hn hN hbytes hcells hslots hdg (fun q cA H1 hK1 hP1 hD1 hS1 => ?_)
  have h1 := (hK1.2 4 (cA, .long) rfl).2
  have h2 := (hK1.2 2 (cyJ, .long) rfl).2
  have h3 : cA = cyJ := Option.some.inj (h1.symm.trans h2)
  subst h3
  exact kk q H1 hP1 hD1 hS1
end NEWS
end
section
theorem mw_fieldLink_RX0_9_MirrorDrill_Changes_plain_J : (.fieldLink RX0 9 "MirrorDrill$Changes" "plain" "[J" : Cond) ∈ BIG := big_tab (List.mem_of_getElem? (i := 294) (by decide +kernel)) rfl
theorem mw_fieldLink_RX0_15_MirrorDrill_Changes_men_I : (.fieldLink RX0 15 "MirrorDrill$Changes" "men" "[I" : Cond) ∈ BIG := big_tab (List.mem_of_getElem? (i := 296) (by decide +kernel)) rfl
theorem mw_fieldLink_RX0_19_MirrorDrill_Changes_moves_I : (.fieldLink RX0 19 "MirrorDrill$Changes" "moves" "[I" : Cond) ∈ BIG := big_tab (List.mem_of_getElem? (i := 297) (by decide +kernel)) rfl
theorem mw_fieldLink_RX2_27_MirrorDrill_Drill_ring_Z : (.fieldLink RX2 27 "MirrorDrill$Drill" "ring" "Z" : Cond) ∈ BIG := big_tab (List.mem_of_getElem? (i := 115) (by decide +kernel)) rfl
theorem mw_fieldLink_RX2_15_MirrorDrill_Drill_men_I : (.fieldLink RX2 15 "MirrorDrill$Drill" "men" "I" : Cond) ∈ BIG := big_tab (List.mem_of_getElem? (i := 100) (by decide +kernel)) rfl
theorem mw_fieldLink_RX2_24_MirrorDrill_Drill_edge_I : (.fieldLink RX2 24 "MirrorDrill$Drill" "edge" "I" : Cond) ∈ BIG := big_tab (List.mem_of_getElem? (i := 112) (by decide +kernel)) rfl
theorem mw_fieldLink_RX2_58_MirrorDrill_Drill_pairSteps_B : (.fieldLink RX2 58 "MirrorDrill$Drill" "pairSteps" "[B" : Cond) ∈ BIG := big_tab (List.mem_of_getElem? (i := 137) (by decide +kernel)) rfl
theorem mw_fieldLink_RX0_22_MirrorDrill_Changes_drill_LMirrorDrill_Drill : (.fieldLink RX0 22 "MirrorDrill$Changes" "drill" "LMirrorDrill$Drill;" : Cond) ∈ BIG := big_tab (List.mem_of_getElem? (i := 289) (by decide +kernel)) rfl
theorem mw_fieldLink_RX0_26_MirrorDrill_Changes_start_J : (.fieldLink RX0 26 "MirrorDrill$Changes" "start" "J" : Cond) ∈ BIG := big_tab (List.mem_of_getElem? (i := 290) (by decide +kernel)) rfl
theorem mw_fieldLink_RX0_30_MirrorDrill_Changes_target_I : (.fieldLink RX0 30 "MirrorDrill$Changes" "target" "I" : Cond) ∈ BIG := big_tab (List.mem_of_getElem? (i := 291) (by decide +kernel)) rfl
theorem mw_fieldLink_RX0_34_MirrorDrill_Changes_wanted_I : (.fieldLink RX0 34 "MirrorDrill$Changes" "wanted" "I" : Cond) ∈ BIG := big_tab (List.mem_of_getElem? (i := 292) (by decide +kernel)) rfl
theorem mw_fieldLink_RX0_37_MirrorDrill_Changes_beats_I : (.fieldLink RX0 37 "MirrorDrill$Changes" "beats" "I" : Cond) ∈ BIG := big_tab (List.mem_of_getElem? (i := 293) (by decide +kernel)) rfl
theorem mw_fieldLink_RX0_54_MirrorDrill_Changes_size_I : (.fieldLink RX0 54 "MirrorDrill$Changes" "size" "I" : Cond) ∈ BIG := big_tab (List.mem_of_getElem? (i := 295) (by decide +kernel)) rfl
theorem mw_fieldLink_RX0_85_MirrorDrill_Drill_moves_I : (.fieldLink RX0 85 "MirrorDrill$Drill" "moves" "I" : Cond) ∈ BIG := big_tab (List.mem_of_getElem? (i := 96) (by decide +kernel)) rfl
theorem mw_fieldLink_RX0_75_MirrorDrill_Drill_men_I : (.fieldLink RX0 75 "MirrorDrill$Drill" "men" "I" : Cond) ∈ BIG := big_tab (List.mem_of_getElem? (i := 103) (by decide +kernel)) rfl
theorem mw_fieldLink_RX6_9_MirrorDrill_Pile_numbers_I : (.fieldLink RX6 9 "MirrorDrill$Pile" "numbers" "[I" : Cond) ∈ BIG := big_tab (List.mem_of_getElem? (i := 195) (by decide +kernel)) rfl
theorem mw_fieldLink_RX6_15_MirrorDrill_Pile_count_I : (.fieldLink RX6 15 "MirrorDrill$Pile" "count" "I" : Cond) ∈ BIG := big_tab (List.mem_of_getElem? (i := 196) (by decide +kernel)) rfl
theorem mw_fieldLink_RX1_9_MirrorDrill_Course_rows_J : (.fieldLink RX1 9 "MirrorDrill$Course" "rows" "[J" : Cond) ∈ BIG := big_tab (List.mem_of_getElem? (i := 208) (by decide +kernel)) rfl
theorem mw_fieldLink_RX1_15_MirrorDrill_Course_known_Z : (.fieldLink RX1 15 "MirrorDrill$Course" "known" "Z" : Cond) ∈ BIG := big_tab (List.mem_of_getElem? (i := 209) (by decide +kernel)) rfl
theorem mw_fieldLink_RX1_19_MirrorDrill_Course_tail_I : (.fieldLink RX1 19 "MirrorDrill$Course" "tail" "I" : Cond) ∈ BIG := big_tab (List.mem_of_getElem? (i := 211) (by decide +kernel)) rfl
theorem mw_fieldLink_RX1_23_MirrorDrill_Course_loop_I : (.fieldLink RX1 23 "MirrorDrill$Course" "loop" "I" : Cond) ∈ BIG := big_tab (List.mem_of_getElem? (i := 212) (by decide +kernel)) rfl
theorem mw_fieldLink_RX1_26_MirrorDrill_Course_knownRow_J : (.fieldLink RX1 26 "MirrorDrill$Course" "knownRow" "J" : Cond) ∈ BIG := big_tab (List.mem_of_getElem? (i := 210) (by decide +kernel)) rfl
theorem mw_fieldLink_RX2_9_MirrorDrill_Drill_moves_I : (.fieldLink RX2 9 "MirrorDrill$Drill" "moves" "I" : Cond) ∈ BIG := big_tab (List.mem_of_getElem? (i := 93) (by decide +kernel)) rfl
theorem mw_fieldLink_RX2_18_MirrorDrill_Drill_rules_I : (.fieldLink RX2 18 "MirrorDrill$Drill" "rules" "I" : Cond) ∈ BIG := big_tab (List.mem_of_getElem? (i := 106) (by decide +kernel)) rfl
theorem mw_fieldLink_RX2_21_MirrorDrill_Drill_units_I : (.fieldLink RX2 21 "MirrorDrill$Drill" "units" "I" : Cond) ∈ BIG := big_tab (List.mem_of_getElem? (i := 109) (by decide +kernel)) rfl
theorem mw_fieldLink_RX2_31_MirrorDrill_Drill_turned_I : (.fieldLink RX2 31 "MirrorDrill$Drill" "turned" "I" : Cond) ∈ BIG := big_tab (List.mem_of_getElem? (i := 119) (by decide +kernel)) rfl
theorem mw_fieldLink_RX2_34_MirrorDrill_Drill_cracked_I : (.fieldLink RX2 34 "MirrorDrill$Drill" "cracked" "I" : Cond) ∈ BIG := big_tab (List.mem_of_getElem? (i := 121) (by decide +kernel)) rfl
theorem mw_fieldLink_RX2_37_MirrorDrill_Drill_first_J : (.fieldLink RX2 37 "MirrorDrill$Drill" "first" "J" : Cond) ∈ BIG := big_tab (List.mem_of_getElem? (i := 123) (by decide +kernel)) rfl
theorem mw_fieldLink_RX2_41_MirrorDrill_Drill_ruleOf_I : (.fieldLink RX2 41 "MirrorDrill$Drill" "ruleOf" "[I" : Cond) ∈ BIG := big_tab (List.mem_of_getElem? (i := 127) (by decide +kernel)) rfl
theorem mw_fieldLink_RX2_45_MirrorDrill_Drill_windows_I : (.fieldLink RX2 45 "MirrorDrill$Drill" "windows" "[I" : Cond) ∈ BIG := big_tab (List.mem_of_getElem? (i := 129) (by decide +kernel)) rfl
theorem mw_fieldLink_RX2_48_MirrorDrill_Drill_worths_I : (.fieldLink RX2 48 "MirrorDrill$Drill" "worths" "[I" : Cond) ∈ BIG := big_tab (List.mem_of_getElem? (i := 132) (by decide +kernel)) rfl
theorem mw_fieldLink_RX2_51_MirrorDrill_Drill_table_B : (.fieldLink RX2 51 "MirrorDrill$Drill" "table" "[B" : Cond) ∈ BIG := big_tab (List.mem_of_getElem? (i := 135) (by decide +kernel)) rfl
theorem mw_fieldLink_RX2_55_MirrorDrill_Drill_steps_B : (.fieldLink RX2 55 "MirrorDrill$Drill" "steps" "[B" : Cond) ∈ BIG := big_tab (List.mem_of_getElem? (i := 136) (by decide +kernel)) rfl
theorem mw_fieldLink_RX3_9_MirrorDrill_Earnest_rows_J : (.fieldLink RX3 9 "MirrorDrill$Earnest" "rows" "[J" : Cond) ∈ BIG := big_tab (List.mem_of_getElem? (i := 176) (by decide +kernel)) rfl
theorem mw_fieldLink_RX3_15_MirrorDrill_Earnest_beatsThen_I : (.fieldLink RX3 15 "MirrorDrill$Earnest" "beatsThen" "[I" : Cond) ∈ BIG := big_tab (List.mem_of_getElem? (i := 177) (by decide +kernel)) rfl
theorem mw_fieldLink_RX3_19_MirrorDrill_Earnest_now_I : (.fieldLink RX3 19 "MirrorDrill$Earnest" "now" "I" : Cond) ∈ BIG := big_tab (List.mem_of_getElem? (i := 178) (by decide +kernel)) rfl
theorem mw_fieldLink_RX3_23_MirrorDrill_Earnest_last_I : (.fieldLink RX3 23 "MirrorDrill$Earnest" "last" "I" : Cond) ∈ BIG := big_tab (List.mem_of_getElem? (i := 179) (by decide +kernel)) rfl
theorem mw_fieldLink_RX4_11_MirrorDrill_Endless_leads_J : (.fieldLink RX4 11 "MirrorDrill$Endless" "leads" "[J" : Cond) ∈ BIG := big_tab (List.mem_of_getElem? (i := 256) (by decide +kernel)) rfl
theorem mw_fieldLink_RX4_15_MirrorDrill_Endless_queue_I : (.fieldLink RX4 15 "MirrorDrill$Endless" "queue" "[I" : Cond) ∈ BIG := big_tab (List.mem_of_getElem? (i := 257) (by decide +kernel)) rfl
theorem mw_fieldLink_RX4_19_MirrorDrill_Endless_met_I : (.fieldLink RX4 19 "MirrorDrill$Endless" "met" "[I" : Cond) ∈ BIG := big_tab (List.mem_of_getElem? (i := 259) (by decide +kernel)) rfl
theorem mw_fieldLink_RX4_22_MirrorDrill_Endless_alike_I : (.fieldLink RX4 22 "MirrorDrill$Endless" "alike" "[I" : Cond) ∈ BIG := big_tab (List.mem_of_getElem? (i := 260) (by decide +kernel)) rfl
theorem mw_fieldLink_RX4_25_MirrorDrill_Endless_gains_I : (.fieldLink RX4 25 "MirrorDrill$Endless" "gains" "[I" : Cond) ∈ BIG := big_tab (List.mem_of_getElem? (i := 261) (by decide +kernel)) rfl
theorem mw_fieldLink_RX4_28_MirrorDrill_Endless_drill_LMirrorDrill_Drill : (.fieldLink RX4 28 "MirrorDrill$Endless" "drill" "LMirrorDrill$Drill;" : Cond) ∈ BIG := big_tab (List.mem_of_getElem? (i := 252) (by decide +kernel)) rfl
theorem mw_fieldLink_RX4_32_MirrorDrill_Endless_rule_I : (.fieldLink RX4 32 "MirrorDrill$Endless" "rule" "I" : Cond) ∈ BIG := big_tab (List.mem_of_getElem? (i := 253) (by decide +kernel)) rfl
theorem mw_fieldLink_RX4_36_MirrorDrill_Drill_moves_I : (.fieldLink RX4 36 "MirrorDrill$Drill" "moves" "I" : Cond) ∈ BIG := big_tab (List.mem_of_getElem? (i := 94) (by decide +kernel)) rfl
theorem mw_fieldLink_RX4_41_MirrorDrill_Endless_moves_I : (.fieldLink RX4 41 "MirrorDrill$Endless" "moves" "I" : Cond) ∈ BIG := big_tab (List.mem_of_getElem? (i := 254) (by decide +kernel)) rfl
theorem mw_fieldLink_RX4_42_MirrorDrill_Endless_pairs_I : (.fieldLink RX4 42 "MirrorDrill$Endless" "pairs" "I" : Cond) ∈ BIG := big_tab (List.mem_of_getElem? (i := 255) (by decide +kernel)) rfl
theorem mw_fieldLink_RX4_63_MirrorDrill_Endless_queued_I : (.fieldLink RX4 63 "MirrorDrill$Endless" "queued" "I" : Cond) ∈ BIG := big_tab (List.mem_of_getElem? (i := 258) (by decide +kernel)) rfl
theorem mw_fieldLink_RX4_133_MirrorDrill_Drill_worths_I : (.fieldLink RX4 133 "MirrorDrill$Drill" "worths" "[I" : Cond) ∈ BIG := big_tab (List.mem_of_getElem? (i := 133) (by decide +kernel)) rfl
theorem mw_fieldLink_RX5_9_MirrorDrill_Forebears_ways_J : (.fieldLink RX5 9 "MirrorDrill$Forebears" "ways" "[J" : Cond) ∈ BIG := big_tab (List.mem_of_getElem? (i := 230) (by decide +kernel)) rfl
theorem mw_fieldLink_RX5_15_MirrorDrill_Forebears_count_J : (.fieldLink RX5 15 "MirrorDrill$Forebears" "count" "J" : Cond) ∈ BIG := big_tab (List.mem_of_getElem? (i := 233) (by decide +kernel)) rfl
theorem mw_fieldLink_RX5_19_MirrorDrill_Forebears_firstKey_J : (.fieldLink RX5 19 "MirrorDrill$Forebears" "firstKey" "J" : Cond) ∈ BIG := big_tab (List.mem_of_getElem? (i := 234) (by decide +kernel)) rfl
theorem mw_fieldLink_RX5_22_MirrorDrill_Forebears_drill_LMirrorDrill_Drill : (.fieldLink RX5 22 "MirrorDrill$Forebears" "drill" "LMirrorDrill$Drill;" : Cond) ∈ BIG := big_tab (List.mem_of_getElem? (i := 231) (by decide +kernel)) rfl
theorem mw_fieldLink_RX5_26_MirrorDrill_Drill_men_I : (.fieldLink RX5 26 "MirrorDrill$Drill" "men" "I" : Cond) ∈ BIG := big_tab (List.mem_of_getElem? (i := 101) (by decide +kernel)) rfl
theorem mw_fieldLink_RX5_36_MirrorDrill_Forebears_goal_J : (.fieldLink RX5 36 "MirrorDrill$Forebears" "goal" "J" : Cond) ∈ BIG := big_tab (List.mem_of_getElem? (i := 232) (by decide +kernel)) rfl
theorem mw_fieldLink_RX5_55_MirrorDrill_Drill_moves_I : (.fieldLink RX5 55 "MirrorDrill$Drill" "moves" "I" : Cond) ∈ BIG := big_tab (List.mem_of_getElem? (i := 95) (by decide +kernel)) rfl
theorem mw_fieldLink_RX5_41_MirrorDrill_Drill_ring_Z : (.fieldLink RX5 41 "MirrorDrill$Drill" "ring" "Z" : Cond) ∈ BIG := big_tab (List.mem_of_getElem? (i := 116) (by decide +kernel)) rfl
theorem mw_fieldLink_RX5_48_MirrorDrill_Drill_edge_I : (.fieldLink RX5 48 "MirrorDrill$Drill" "edge" "I" : Cond) ∈ BIG := big_tab (List.mem_of_getElem? (i := 113) (by decide +kernel)) rfl
theorem mw_fieldLink_RX7_9_MirrorDrill_Reader_text_I : (.fieldLink RX7 9 "MirrorDrill$Reader" "text" "[I" : Cond) ∈ BIG := big_tab (List.mem_of_getElem? (i := 36) (by decide +kernel)) rfl
theorem mw_fieldLink_RX7_15_MirrorDrill_Reader_names_J : (.fieldLink RX7 15 "MirrorDrill$Reader" "names" "[J" : Cond) ∈ BIG := big_tab (List.mem_of_getElem? (i := 46) (by decide +kernel)) rfl
theorem mw_fieldLink_RX7_19_MirrorDrill_Reader_parts_I : (.fieldLink RX7 19 "MirrorDrill$Reader" "parts" "[I" : Cond) ∈ BIG := big_tab (List.mem_of_getElem? (i := 48) (by decide +kernel)) rfl
theorem mw_fieldLink_RX7_22_MirrorDrill_Reader_fault_I : (.fieldLink RX7 22 "MirrorDrill$Reader" "fault" "I" : Cond) ∈ BIG := big_tab (List.mem_of_getElem? (i := 50) (by decide +kernel)) rfl
theorem mw_fieldLink_RX7_26_MirrorDrill_Reader_faultPlace_I : (.fieldLink RX7 26 "MirrorDrill$Reader" "faultPlace" "I" : Cond) ∈ BIG := big_tab (List.mem_of_getElem? (i := 51) (by decide +kernel)) rfl
theorem mw_fieldLink_RX7_75_MirrorDrill_Reader_name_J : (.fieldLink RX7 75 "MirrorDrill$Reader" "name" "J" : Cond) ∈ BIG := big_tab (List.mem_of_getElem? (i := 42) (by decide +kernel)) rfl
theorem mw_fieldLink_RX7_42_MirrorDrill_Reader_at_I : (.fieldLink RX7 42 "MirrorDrill$Reader" "at" "I" : Cond) ∈ BIG := big_tab (List.mem_of_getElem? (i := 38) (by decide +kernel)) rfl
theorem mw_fieldLink_RX7_35_MirrorDrill_Reader_length_I : (.fieldLink RX7 35 "MirrorDrill$Reader" "length" "I" : Cond) ∈ BIG := big_tab (List.mem_of_getElem? (i := 37) (by decide +kernel)) rfl
theorem mw_fieldLink_RX7_99_MirrorDrill_Reader_value_I : (.fieldLink RX7 99 "MirrorDrill$Reader" "value" "I" : Cond) ∈ BIG := big_tab (List.mem_of_getElem? (i := 41) (by decide +kernel)) rfl
theorem mw_fieldLink_RX7_62_MirrorDrill_Reader_place_I : (.fieldLink RX7 62 "MirrorDrill$Reader" "place" "I" : Cond) ∈ BIG := big_tab (List.mem_of_getElem? (i := 40) (by decide +kernel)) rfl
theorem mw_fieldLink_RX7_59_MirrorDrill_Reader_token_I : (.fieldLink RX7 59 "MirrorDrill$Reader" "token" "I" : Cond) ∈ BIG := big_tab (List.mem_of_getElem? (i := 39) (by decide +kernel)) rfl
theorem mw_fieldLink_RX7_38_MirrorDrill_Reader_target_LMirrorDrill_Drill : (.fieldLink RX7 38 "MirrorDrill$Reader" "target" "LMirrorDrill$Drill;" : Cond) ∈ BIG := big_tab (List.mem_of_getElem? (i := 43) (by decide +kernel)) rfl
theorem mw_fieldLink_RX7_45_MirrorDrill_Reader_toldLines_I : (.fieldLink RX7 45 "MirrorDrill$Reader" "toldLines" "I" : Cond) ∈ BIG := big_tab (List.mem_of_getElem? (i := 44) (by decide +kernel)) rfl
theorem mw_fieldLink_RX7_48_MirrorDrill_Reader_toldMen_I : (.fieldLink RX7 48 "MirrorDrill$Reader" "toldMen" "I" : Cond) ∈ BIG := big_tab (List.mem_of_getElem? (i := 45) (by decide +kernel)) rfl
theorem mw_fieldLink_RX7_114_MirrorDrill_Drill_moves_I : (.fieldLink RX7 114 "MirrorDrill$Drill" "moves" "I" : Cond) ∈ BIG := big_tab (List.mem_of_getElem? (i := 97) (by decide +kernel)) rfl
theorem mw_fieldLink_RX7_123_MirrorDrill_Drill_rules_I : (.fieldLink RX7 123 "MirrorDrill$Drill" "rules" "I" : Cond) ∈ BIG := big_tab (List.mem_of_getElem? (i := 107) (by decide +kernel)) rfl
theorem mw_fieldLink_RX7_164_MirrorDrill_Reader_top_I : (.fieldLink RX7 164 "MirrorDrill$Reader" "top" "I" : Cond) ∈ BIG := big_tab (List.mem_of_getElem? (i := 49) (by decide +kernel)) rfl
theorem mw_fieldLink_RX7_161_MirrorDrill_Reader_unitsInOne_I : (.fieldLink RX7 161 "MirrorDrill$Reader" "unitsInOne" "I" : Cond) ∈ BIG := big_tab (List.mem_of_getElem? (i := 47) (by decide +kernel)) rfl
theorem mw_fieldLink_RX7_216_MirrorDrill_Drill_units_I : (.fieldLink RX7 216 "MirrorDrill$Drill" "units" "I" : Cond) ∈ BIG := big_tab (List.mem_of_getElem? (i := 110) (by decide +kernel)) rfl
theorem mw_fieldLink_RX7_191_MirrorDrill_Drill_ruleOf_I : (.fieldLink RX7 191 "MirrorDrill$Drill" "ruleOf" "[I" : Cond) ∈ BIG := big_tab (List.mem_of_getElem? (i := 128) (by decide +kernel)) rfl
theorem mw_fieldLink_RX7_194_MirrorDrill_Drill_turned_I : (.fieldLink RX7 194 "MirrorDrill$Drill" "turned" "I" : Cond) ∈ BIG := big_tab (List.mem_of_getElem? (i := 120) (by decide +kernel)) rfl
theorem mw_fieldLink_RX7_197_MirrorDrill_Drill_cracked_I : (.fieldLink RX7 197 "MirrorDrill$Drill" "cracked" "I" : Cond) ∈ BIG := big_tab (List.mem_of_getElem? (i := 122) (by decide +kernel)) rfl
theorem mw_fieldLink_RX7_200_MirrorDrill_Drill_windows_I : (.fieldLink RX7 200 "MirrorDrill$Drill" "windows" "[I" : Cond) ∈ BIG := big_tab (List.mem_of_getElem? (i := 131) (by decide +kernel)) rfl
theorem mw_fieldLink_RX7_129_MirrorDrill_Drill_men_I : (.fieldLink RX7 129 "MirrorDrill$Drill" "men" "I" : Cond) ∈ BIG := big_tab (List.mem_of_getElem? (i := 105) (by decide +kernel)) rfl
theorem mw_fieldLink_RX7_175_MirrorDrill_Drill_first_J : (.fieldLink RX7 175 "MirrorDrill$Drill" "first" "J" : Cond) ∈ BIG := big_tab (List.mem_of_getElem? (i := 126) (by decide +kernel)) rfl
theorem mw_fieldLink_RX7_155_MirrorDrill_Drill_worths_I : (.fieldLink RX7 155 "MirrorDrill$Drill" "worths" "[I" : Cond) ∈ BIG := big_tab (List.mem_of_getElem? (i := 134) (by decide +kernel)) rfl
theorem mw_fieldLink_RX7_135_MirrorDrill_Drill_edge_I : (.fieldLink RX7 135 "MirrorDrill$Drill" "edge" "I" : Cond) ∈ BIG := big_tab (List.mem_of_getElem? (i := 114) (by decide +kernel)) rfl
theorem mw_fieldLink_RX7_148_MirrorDrill_Drill_ring_Z : (.fieldLink RX7 148 "MirrorDrill$Drill" "ring" "Z" : Cond) ∈ BIG := big_tab (List.mem_of_getElem? (i := 117) (by decide +kernel)) rfl
theorem mw_fieldLink_RX8_9_MirrorDrill_Witness_beatOf_I : (.fieldLink RX8 9 "MirrorDrill$Witness" "beatOf" "[I" : Cond) ∈ BIG := big_tab (List.mem_of_getElem? (i := 323) (by decide +kernel)) rfl
theorem mw_fieldLink_RX8_15_MirrorDrill_Witness_manOf_I : (.fieldLink RX8 15 "MirrorDrill$Witness" "manOf" "[I" : Cond) ∈ BIG := big_tab (List.mem_of_getElem? (i := 324) (by decide +kernel)) rfl
theorem mw_fieldLink_RX8_18_MirrorDrill_Witness_moveOf_I : (.fieldLink RX8 18 "MirrorDrill$Witness" "moveOf" "[I" : Cond) ∈ BIG := big_tab (List.mem_of_getElem? (i := 325) (by decide +kernel)) rfl
theorem mw_fieldLink_RX8_21_MirrorDrill_Witness_toldAt_I : (.fieldLink RX8 21 "MirrorDrill$Witness" "toldAt" "[I" : Cond) ∈ BIG := big_tab (List.mem_of_getElem? (i := 326) (by decide +kernel)) rfl
theorem mw_fieldLink_RX8_24_MirrorDrill_Witness_untoldAt_I : (.fieldLink RX8 24 "MirrorDrill$Witness" "untoldAt" "[I" : Cond) ∈ BIG := big_tab (List.mem_of_getElem? (i := 327) (by decide +kernel)) rfl
theorem mw_fieldLink_RX8_27_MirrorDrill_Witness_sights_I : (.fieldLink RX8 27 "MirrorDrill$Witness" "sights" "I" : Cond) ∈ BIG := big_tab (List.mem_of_getElem? (i := 328) (by decide +kernel)) rfl
theorem mw_fieldLink_RX8_31_MirrorDrill_Witness_unsureMen_I : (.fieldLink RX8 31 "MirrorDrill$Witness" "unsureMen" "I" : Cond) ∈ BIG := big_tab (List.mem_of_getElem? (i := 329) (by decide +kernel)) rfl
theorem mw_fieldLink_RX8_34_MirrorDrill_Witness_cells_J : (.fieldLink RX8 34 "MirrorDrill$Witness" "cells" "[J" : Cond) ∈ BIG := big_tab (List.mem_of_getElem? (i := 330) (by decide +kernel)) rfl
theorem mw_fieldLink_RX8_38_MirrorDrill_Witness_contents_J : (.fieldLink RX8 38 "MirrorDrill$Witness" "contents" "[J" : Cond) ∈ BIG := big_tab (List.mem_of_getElem? (i := 331) (by decide +kernel)) rfl
theorem mw_fieldLink_RX8_41_MirrorDrill_Witness_unsureOnes_I : (.fieldLink RX8 41 "MirrorDrill$Witness" "unsureOnes" "[I" : Cond) ∈ BIG := big_tab (List.mem_of_getElem? (i := 335) (by decide +kernel)) rfl
theorem mw_fieldLink_RX8_44_MirrorDrill_Witness_known_Z : (.fieldLink RX8 44 "MirrorDrill$Witness" "known" "Z" : Cond) ∈ BIG := big_tab (List.mem_of_getElem? (i := 336) (by decide +kernel)) rfl
theorem mw_fieldLink_RX8_48_MirrorDrill_Witness_movesFitting_I : (.fieldLink RX8 48 "MirrorDrill$Witness" "movesFitting" "[I" : Cond) ∈ BIG := big_tab (List.mem_of_getElem? (i := 339) (by decide +kernel)) rfl
theorem mw_fieldLink_RX8_64_MirrorDrill_Witness_clash_Z : (.fieldLink RX8 64 "MirrorDrill$Witness" "clash" "Z" : Cond) ∈ BIG := big_tab (List.mem_of_getElem? (i := 333) (by decide +kernel)) rfl
theorem mw_fieldLink_RX8_61_MirrorDrill_Witness_lastBeat_I : (.fieldLink RX8 61 "MirrorDrill$Witness" "lastBeat" "I" : Cond) ∈ BIG := big_tab (List.mem_of_getElem? (i := 332) (by decide +kernel)) rfl
theorem mw_fieldLink_RX8_51_MirrorDrill_Witness_drill_LMirrorDrill_Drill : (.fieldLink RX8 51 "MirrorDrill$Witness" "drill" "LMirrorDrill$Drill;" : Cond) ∈ BIG := big_tab (List.mem_of_getElem? (i := 334) (by decide +kernel)) rfl
theorem mw_fieldLink_RX8_116_MirrorDrill_Drill_men_I : (.fieldLink RX8 116 "MirrorDrill$Drill" "men" "I" : Cond) ∈ BIG := big_tab (List.mem_of_getElem? (i := 104) (by decide +kernel)) rfl
theorem mw_fieldLink_RX8_145_MirrorDrill_Drill_first_J : (.fieldLink RX8 145 "MirrorDrill$Drill" "first" "J" : Cond) ∈ BIG := big_tab (List.mem_of_getElem? (i := 125) (by decide +kernel)) rfl
theorem mw_fieldLink_RX8_127_MirrorDrill_Drill_moves_I : (.fieldLink RX8 127 "MirrorDrill$Drill" "moves" "I" : Cond) ∈ BIG := big_tab (List.mem_of_getElem? (i := 98) (by decide +kernel)) rfl
theorem mw_fieldLink_RX8_113_MirrorDrill_Witness_fitting_I : (.fieldLink RX8 113 "MirrorDrill$Witness" "fitting" "I" : Cond) ∈ BIG := big_tab (List.mem_of_getElem? (i := 338) (by decide +kernel)) rfl
theorem mw_fieldLink_RX8_107_MirrorDrill_Witness_knownSights_I : (.fieldLink RX8 107 "MirrorDrill$Witness" "knownSights" "I" : Cond) ∈ BIG := big_tab (List.mem_of_getElem? (i := 337) (by decide +kernel)) rfl
theorem mw_fieldLink_RX8_152_MirrorDrill_Drill_windows_I : (.fieldLink RX8 152 "MirrorDrill$Drill" "windows" "[I" : Cond) ∈ BIG := big_tab (List.mem_of_getElem? (i := 130) (by decide +kernel)) rfl
theorem mw_fieldLink_RX9_9_MirrorDrill_tape_I : (.fieldLink RX9 9 "MirrorDrill" "tape" "[I" : Cond) ∈ BIG := big_tab (List.mem_of_getElem? (i := 375) (by decide +kernel)) rfl
theorem mw_fieldLink_RX9_13_MirrorDrill_taped_I : (.fieldLink RX9 13 "MirrorDrill" "taped" "I" : Cond) ∈ BIG := big_tab (List.mem_of_getElem? (i := 376) (by decide +kernel)) rfl
theorem mw_fieldLink_RX9_20_MirrorDrill_reader_LMirrorDrill_Reader : (.fieldLink RX9 20 "MirrorDrill" "reader" "LMirrorDrill$Reader;" : Cond) ∈ BIG := big_tab (List.mem_of_getElem? (i := 377) (by decide +kernel)) rfl
theorem mw_fieldLink_RX9_27_MirrorDrill_drill_LMirrorDrill_Drill : (.fieldLink RX9 27 "MirrorDrill" "drill" "LMirrorDrill$Drill;" : Cond) ∈ BIG := big_tab (List.mem_of_getElem? (i := 378) (by decide +kernel)) rfl
theorem mw_fieldLink_RX9_31_MirrorDrill_spare_LMirrorDrill_Drill : (.fieldLink RX9 31 "MirrorDrill" "spare" "LMirrorDrill$Drill;" : Cond) ∈ BIG := big_tab (List.mem_of_getElem? (i := 379) (by decide +kernel)) rfl
theorem mw_fieldLink_RX9_34_MirrorDrill_fault_I : (.fieldLink RX9 34 "MirrorDrill" "fault" "I" : Cond) ∈ BIG := big_tab (List.mem_of_getElem? (i := 380) (by decide +kernel)) rfl
theorem mw_fieldLink_RX9_37_MirrorDrill_faultPlace_I : (.fieldLink RX9 37 "MirrorDrill" "faultPlace" "I" : Cond) ∈ BIG := big_tab (List.mem_of_getElem? (i := 381) (by decide +kernel)) rfl
theorem mw_fieldLink_RX9_43_MirrorDrill_earnest_LMirrorDrill_Earnest : (.fieldLink RX9 43 "MirrorDrill" "earnest" "LMirrorDrill$Earnest;" : Cond) ∈ BIG := big_tab (List.mem_of_getElem? (i := 382) (by decide +kernel)) rfl
theorem mw_fieldLink_RX9_47_MirrorDrill_boxRows_J : (.fieldLink RX9 47 "MirrorDrill" "boxRows" "[J" : Cond) ∈ BIG := big_tab (List.mem_of_getElem? (i := 383) (by decide +kernel)) rfl
theorem mw_fieldLink_RX9_51_MirrorDrill_boxBeats_I : (.fieldLink RX9 51 "MirrorDrill" "boxBeats" "[I" : Cond) ∈ BIG := big_tab (List.mem_of_getElem? (i := 384) (by decide +kernel)) rfl
theorem mw_fieldLink_RX9_57_MirrorDrill_pile_LMirrorDrill_Pile : (.fieldLink RX9 57 "MirrorDrill" "pile" "LMirrorDrill$Pile;" : Cond) ∈ BIG := big_tab (List.mem_of_getElem? (i := 385) (by decide +kernel)) rfl
theorem mw_fieldLink_RX9_61_MirrorDrill_time_I : (.fieldLink RX9 61 "MirrorDrill" "time" "I" : Cond) ∈ BIG := big_tab (List.mem_of_getElem? (i := 386) (by decide +kernel)) rfl
theorem mw_fieldLink_RX9_67_MirrorDrill_course_LMirrorDrill_Course : (.fieldLink RX9 67 "MirrorDrill" "course" "LMirrorDrill$Course;" : Cond) ∈ BIG := big_tab (List.mem_of_getElem? (i := 387) (by decide +kernel)) rfl
theorem mw_fieldLink_RX9_74_MirrorDrill_forebears_LMirrorDrill_Forebears : (.fieldLink RX9 74 "MirrorDrill" "forebears" "LMirrorDrill$Forebears;" : Cond) ∈ BIG := big_tab (List.mem_of_getElem? (i := 388) (by decide +kernel)) rfl
theorem mw_fieldLink_RX9_81_MirrorDrill_endless_LMirrorDrill_Endless : (.fieldLink RX9 81 "MirrorDrill" "endless" "LMirrorDrill$Endless;" : Cond) ∈ BIG := big_tab (List.mem_of_getElem? (i := 389) (by decide +kernel)) rfl
theorem mw_fieldLink_RX9_88_MirrorDrill_changes_LMirrorDrill_Changes : (.fieldLink RX9 88 "MirrorDrill" "changes" "LMirrorDrill$Changes;" : Cond) ∈ BIG := big_tab (List.mem_of_getElem? (i := 390) (by decide +kernel)) rfl
theorem mw_fieldLink_RX9_95_MirrorDrill_witness_LMirrorDrill_Witness : (.fieldLink RX9 95 "MirrorDrill" "witness" "LMirrorDrill$Witness;" : Cond) ∈ BIG := big_tab (List.mem_of_getElem? (i := 391) (by decide +kernel)) rfl
theorem mw_fieldLink_RX9_124_MirrorDrill_Drill_first_J : (.fieldLink RX9 124 "MirrorDrill$Drill" "first" "J" : Cond) ∈ BIG := big_tab (List.mem_of_getElem? (i := 124) (by decide +kernel)) rfl
theorem mw_fieldLink_RX9_144_MirrorDrill_Drill_men_I : (.fieldLink RX9 144 "MirrorDrill$Drill" "men" "I" : Cond) ∈ BIG := big_tab (List.mem_of_getElem? (i := 102) (by decide +kernel)) rfl
theorem mw_fieldLink_RX9_285_MirrorDrill_Drill_moves_I : (.fieldLink RX9 285 "MirrorDrill$Drill" "moves" "I" : Cond) ∈ BIG := big_tab (List.mem_of_getElem? (i := 99) (by decide +kernel)) rfl
theorem mw_fieldLink_RX9_297_MirrorDrill_Drill_rules_I : (.fieldLink RX9 297 "MirrorDrill$Drill" "rules" "I" : Cond) ∈ BIG := big_tab (List.mem_of_getElem? (i := 108) (by decide +kernel)) rfl
theorem mw_fieldLink_RX9_309_MirrorDrill_Drill_units_I : (.fieldLink RX9 309 "MirrorDrill$Drill" "units" "I" : Cond) ∈ BIG := big_tab (List.mem_of_getElem? (i := 111) (by decide +kernel)) rfl
theorem mw_fieldLink_RX9_312_MirrorDrill_Drill_ring_Z : (.fieldLink RX9 312 "MirrorDrill$Drill" "ring" "Z" : Cond) ∈ BIG := big_tab (List.mem_of_getElem? (i := 118) (by decide +kernel)) rfl
theorem mw_fieldLink_RX10_20_MirrorDrillModel_moves_I : (.fieldLink RX10 20 "MirrorDrillModel" "moves" "[I" : Cond) ∈ BIG := big_tab (List.mem_of_getElem? (i := 1325) (by decide +kernel)) rfl
theorem mw_fieldLink_RX10_273_MirrorDrillModel_rb_I : (.fieldLink RX10 273 "MirrorDrillModel" "rb" "I" : Cond) ∈ BIG := big_tab (List.mem_of_getElem? (i := 1352) (by decide +kernel)) rfl
theorem mw_fieldLink_RX10_24_MirrorDrillModel_men_I : (.fieldLink RX10 24 "MirrorDrillModel" "men" "[I" : Cond) ∈ BIG := big_tab (List.mem_of_getElem? (i := 1326) (by decide +kernel)) rfl
theorem mw_fieldLink_RX10_27_MirrorDrillModel_rules_I : (.fieldLink RX10 27 "MirrorDrillModel" "rules" "[I" : Cond) ∈ BIG := big_tab (List.mem_of_getElem? (i := 1327) (by decide +kernel)) rfl
theorem mw_fieldLink_RX10_30_MirrorDrillModel_unitsOf_I : (.fieldLink RX10 30 "MirrorDrillModel" "unitsOf" "[I" : Cond) ∈ BIG := big_tab (List.mem_of_getElem? (i := 1328) (by decide +kernel)) rfl
theorem mw_fieldLink_RX10_33_MirrorDrillModel_edge_I : (.fieldLink RX10 33 "MirrorDrillModel" "edge" "[I" : Cond) ∈ BIG := big_tab (List.mem_of_getElem? (i := 1329) (by decide +kernel)) rfl
theorem mw_fieldLink_RX10_57_MirrorDrillModel_isMoves_Z : (.fieldLink RX10 57 "MirrorDrillModel" "isMoves" "[Z" : Cond) ∈ BIG := big_tab (List.mem_of_getElem? (i := 1337) (by decide +kernel)) rfl
theorem mw_fieldLink_RX10_61_MirrorDrillModel_isMen_Z : (.fieldLink RX10 61 "MirrorDrillModel" "isMen" "[Z" : Cond) ∈ BIG := big_tab (List.mem_of_getElem? (i := 1338) (by decide +kernel)) rfl
theorem mw_fieldLink_RX10_64_MirrorDrillModel_isRing_Z : (.fieldLink RX10 64 "MirrorDrillModel" "isRing" "[Z" : Cond) ∈ BIG := big_tab (List.mem_of_getElem? (i := 1339) (by decide +kernel)) rfl
theorem mw_fieldLink_RX10_67_MirrorDrillModel_isEdge_Z : (.fieldLink RX10 67 "MirrorDrillModel" "isEdge" "[Z" : Cond) ∈ BIG := big_tab (List.mem_of_getElem? (i := 1340) (by decide +kernel)) rfl
theorem mw_fieldLink_RX10_70_MirrorDrillModel_isWorth_Z : (.fieldLink RX10 70 "MirrorDrillModel" "isWorth" "[Z" : Cond) ∈ BIG := big_tab (List.mem_of_getElem? (i := 1341) (by decide +kernel)) rfl
theorem mw_fieldLink_RX10_276_MirrorDrillModel_codes_I : (.fieldLink RX10 276 "MirrorDrillModel" "codes" "I" : Cond) ∈ BIG := big_tab (List.mem_of_getElem? (i := 1353) (by decide +kernel)) rfl
theorem mw_fieldLink_RX10_36_MirrorDrillModel_worthOf_I : (.fieldLink RX10 36 "MirrorDrillModel" "worthOf" "[I" : Cond) ∈ BIG := big_tab (List.mem_of_getElem? (i := 1330) (by decide +kernel)) rfl
theorem mw_fieldLink_RX10_48_MirrorDrillModel_first_I : (.fieldLink RX10 48 "MirrorDrillModel" "first" "[I" : Cond) ∈ BIG := big_tab (List.mem_of_getElem? (i := 1334) (by decide +kernel)) rfl
theorem mw_fieldLink_RX10_51_MirrorDrillModel_byRule_I : (.fieldLink RX10 51 "MirrorDrillModel" "byRule" "[I" : Cond) ∈ BIG := big_tab (List.mem_of_getElem? (i := 1335) (by decide +kernel)) rfl
theorem mw_fieldLink_RX10_54_MirrorDrillModel_window_I : (.fieldLink RX10 54 "MirrorDrillModel" "window" "[I" : Cond) ∈ BIG := big_tab (List.mem_of_getElem? (i := 1336) (by decide +kernel)) rfl
theorem mw_fieldLink_RX10_73_MirrorDrillModel_isTurned_Z : (.fieldLink RX10 73 "MirrorDrillModel" "isTurned" "[Z" : Cond) ∈ BIG := big_tab (List.mem_of_getElem? (i := 1342) (by decide +kernel)) rfl
theorem mw_fieldLink_RX10_76_MirrorDrillModel_isCracked_Z : (.fieldLink RX10 76 "MirrorDrillModel" "isCracked" "[Z" : Cond) ∈ BIG := big_tab (List.mem_of_getElem? (i := 1343) (by decide +kernel)) rfl
theorem mw_fieldLink_RX10_79_MirrorDrillModel_isTold_Z : (.fieldLink RX10 79 "MirrorDrillModel" "isTold" "[Z" : Cond) ∈ BIG := big_tab (List.mem_of_getElem? (i := 1344) (by decide +kernel)) rfl
theorem mw_fieldLink_RX10_101_MirrorDrillModel_row_I : (.fieldLink RX10 101 "MirrorDrillModel" "row" "[I" : Cond) ∈ BIG := big_tab (List.mem_of_getElem? (i := 1357) (by decide +kernel)) rfl
theorem mw_fieldLink_RX10_282_MirrorDrillModel_bank_I : (.fieldLink RX10 282 "MirrorDrillModel" "bank" "I" : Cond) ∈ BIG := big_tab (List.mem_of_getElem? (i := 1351) (by decide +kernel)) rfl
theorem mw_fieldLink_RX10_107_MirrorDrillModel_now_I : (.fieldLink RX10 107 "MirrorDrillModel" "now" "[I" : Cond) ∈ BIG := big_tab (List.mem_of_getElem? (i := 1359) (by decide +kernel)) rfl
theorem mw_fieldLink_RX10_388_MirrorDrillModel_beats_I : (.fieldLink RX10 388 "MirrorDrillModel" "beats" "I" : Cond) ∈ BIG := big_tab (List.mem_of_getElem? (i := 1360) (by decide +kernel)) rfl
theorem mw_fieldLink_RX10_391_MirrorDrillModel_acts_I : (.fieldLink RX10 391 "MirrorDrillModel" "acts" "I" : Cond) ∈ BIG := big_tab (List.mem_of_getElem? (i := 1365) (by decide +kernel)) rfl
theorem mw_fieldLink_RX10_394_MirrorDrillModel_undone_I : (.fieldLink RX10 394 "MirrorDrillModel" "undone" "I" : Cond) ∈ BIG := big_tab (List.mem_of_getElem? (i := 1366) (by decide +kernel)) rfl
theorem mw_fieldLink_RX10_7_MirrorDrillModel_tape_B : (.fieldLink RX10 7 "MirrorDrillModel" "tape" "[B" : Cond) ∈ BIG := big_tab (List.mem_of_getElem? (i := 1314) (by decide +kernel)) rfl
theorem mw_fieldLink_RX10_13_MirrorDrillModel_text_B : (.fieldLink RX10 13 "MirrorDrillModel" "text" "[B" : Cond) ∈ BIG := big_tab (List.mem_of_getElem? (i := 1315) (by decide +kernel)) rfl
theorem mw_fieldLink_RX10_16_MirrorDrillModel_faultPlace_I : (.fieldLink RX10 16 "MirrorDrillModel" "faultPlace" "I" : Cond) ∈ BIG := big_tab (List.mem_of_getElem? (i := 1319) (by decide +kernel)) rfl
theorem mw_fieldLink_RX10_39_MirrorDrillModel_ruleFrom_I : (.fieldLink RX10 39 "MirrorDrillModel" "ruleFrom" "[I" : Cond) ∈ BIG := big_tab (List.mem_of_getElem? (i := 1331) (by decide +kernel)) rfl
theorem mw_fieldLink_RX10_42_MirrorDrillModel_ruleTo_I : (.fieldLink RX10 42 "MirrorDrillModel" "ruleTo" "[I" : Cond) ∈ BIG := big_tab (List.mem_of_getElem? (i := 1332) (by decide +kernel)) rfl
theorem mw_fieldLink_RX10_45_MirrorDrillModel_table_I : (.fieldLink RX10 45 "MirrorDrillModel" "table" "[I" : Cond) ∈ BIG := big_tab (List.mem_of_getElem? (i := 1333) (by decide +kernel)) rfl
theorem mw_fieldLink_RX10_82_MirrorDrillModel_rName_J : (.fieldLink RX10 82 "MirrorDrillModel" "rName" "[J" : Cond) ∈ BIG := big_tab (List.mem_of_getElem? (i := 1345) (by decide +kernel)) rfl
theorem mw_fieldLink_RX10_86_MirrorDrillModel_code_I : (.fieldLink RX10 86 "MirrorDrillModel" "code" "[I" : Cond) ∈ BIG := big_tab (List.mem_of_getElem? (i := 1346) (by decide +kernel)) rfl
theorem mw_fieldLink_RX10_89_MirrorDrillModel_codeNumber_I : (.fieldLink RX10 89 "MirrorDrillModel" "codeNumber" "[I" : Cond) ∈ BIG := big_tab (List.mem_of_getElem? (i := 1347) (by decide +kernel)) rfl
theorem mw_fieldLink_RX10_92_MirrorDrillModel_eWhat_I : (.fieldLink RX10 92 "MirrorDrillModel" "eWhat" "[I" : Cond) ∈ BIG := big_tab (List.mem_of_getElem? (i := 1348) (by decide +kernel)) rfl
theorem mw_fieldLink_RX10_95_MirrorDrillModel_eSign_I : (.fieldLink RX10 95 "MirrorDrillModel" "eSign" "[I" : Cond) ∈ BIG := big_tab (List.mem_of_getElem? (i := 1349) (by decide +kernel)) rfl
theorem mw_fieldLink_RX10_98_MirrorDrillModel_pile_I : (.fieldLink RX10 98 "MirrorDrillModel" "pile" "[I" : Cond) ∈ BIG := big_tab (List.mem_of_getElem? (i := 1350) (by decide +kernel)) rfl
theorem mw_fieldLink_RX10_104_MirrorDrillModel_next_I : (.fieldLink RX10 104 "MirrorDrillModel" "next" "[I" : Cond) ∈ BIG := big_tab (List.mem_of_getElem? (i := 1358) (by decide +kernel)) rfl
theorem mw_fieldLink_RX10_110_MirrorDrillModel_otherMan_I : (.fieldLink RX10 110 "MirrorDrillModel" "otherMan" "I" : Cond) ∈ BIG := big_tab (List.mem_of_getElem? (i := 1362) (by decide +kernel)) rfl
theorem mw_fieldLink_RX10_113_MirrorDrillModel_was_I : (.fieldLink RX10 113 "MirrorDrillModel" "was" "[I" : Cond) ∈ BIG := big_tab (List.mem_of_getElem? (i := 1364) (by decide +kernel)) rfl
theorem mw_fieldLink_RX10_116_MirrorDrillModel_seen_J : (.fieldLink RX10 116 "MirrorDrillModel" "seen" "[J" : Cond) ∈ BIG := big_tab (List.mem_of_getElem? (i := 1367) (by decide +kernel)) rfl
theorem mw_fieldLink_RX10_119_MirrorDrillModel_given_I : (.fieldLink RX10 119 "MirrorDrillModel" "given" "[I" : Cond) ∈ BIG := big_tab (List.mem_of_getElem? (i := 1370) (by decide +kernel)) rfl
theorem mw_fieldLink_RX10_122_MirrorDrillModel_ways_J : (.fieldLink RX10 122 "MirrorDrillModel" "ways" "[J" : Cond) ∈ BIG := big_tab (List.mem_of_getElem? (i := 1371) (by decide +kernel)) rfl
theorem mw_fieldLink_RX10_125_MirrorDrillModel_waysNext_J : (.fieldLink RX10 125 "MirrorDrillModel" "waysNext" "[J" : Cond) ∈ BIG := big_tab (List.mem_of_getElem? (i := 1372) (by decide +kernel)) rfl
theorem mw_fieldLink_RX10_128_MirrorDrillModel_laidRow_I : (.fieldLink RX10 128 "MirrorDrillModel" "laidRow" "[I" : Cond) ∈ BIG := big_tab (List.mem_of_getElem? (i := 1373) (by decide +kernel)) rfl
theorem mw_fieldLink_RX10_132_MirrorDrillModel_queue_I : (.fieldLink RX10 132 "MirrorDrillModel" "queue" "[I" : Cond) ∈ BIG := big_tab (List.mem_of_getElem? (i := 1375) (by decide +kernel)) rfl
theorem mw_fieldLink_RX10_135_MirrorDrillModel_cameFrom_I : (.fieldLink RX10 135 "MirrorDrillModel" "cameFrom" "[I" : Cond) ∈ BIG := big_tab (List.mem_of_getElem? (i := 1376) (by decide +kernel)) rfl
theorem mw_fieldLink_RX10_138_MirrorDrillModel_cameBy_B : (.fieldLink RX10 138 "MirrorDrillModel" "cameBy" "[B" : Cond) ∈ BIG := big_tab (List.mem_of_getElem? (i := 1377) (by decide +kernel)) rfl
theorem mw_fieldLink_RX10_141_MirrorDrillModel_isOn_Z : (.fieldLink RX10 141 "MirrorDrillModel" "isOn" "[Z" : Cond) ∈ BIG := big_tab (List.mem_of_getElem? (i := 1379) (by decide +kernel)) rfl
theorem mw_fieldLink_RX10_144_MirrorDrillModel_other_I : (.fieldLink RX10 144 "MirrorDrillModel" "other" "[I" : Cond) ∈ BIG := big_tab (List.mem_of_getElem? (i := 1380) (by decide +kernel)) rfl
theorem mw_fieldLink_RX10_147_MirrorDrillModel_pickMan_I : (.fieldLink RX10 147 "MirrorDrillModel" "pickMan" "[I" : Cond) ∈ BIG := big_tab (List.mem_of_getElem? (i := 1381) (by decide +kernel)) rfl
theorem mw_fieldLink_RX10_150_MirrorDrillModel_pickMove_I : (.fieldLink RX10 150 "MirrorDrillModel" "pickMove" "[I" : Cond) ∈ BIG := big_tab (List.mem_of_getElem? (i := 1382) (by decide +kernel)) rfl
theorem mw_fieldLink_RX10_153_MirrorDrillModel_gBeat_I : (.fieldLink RX10 153 "MirrorDrillModel" "gBeat" "[I" : Cond) ∈ BIG := big_tab (List.mem_of_getElem? (i := 1383) (by decide +kernel)) rfl
theorem mw_fieldLink_RX10_156_MirrorDrillModel_gMan_I : (.fieldLink RX10 156 "MirrorDrillModel" "gMan" "[I" : Cond) ∈ BIG := big_tab (List.mem_of_getElem? (i := 1384) (by decide +kernel)) rfl
theorem mw_fieldLink_RX10_159_MirrorDrillModel_gMove_I : (.fieldLink RX10 159 "MirrorDrillModel" "gMove" "[I" : Cond) ∈ BIG := big_tab (List.mem_of_getElem? (i := 1385) (by decide +kernel)) rfl
theorem mw_fieldLink_RX10_162_MirrorDrillModel_gTold_I : (.fieldLink RX10 162 "MirrorDrillModel" "gTold" "[I" : Cond) ∈ BIG := big_tab (List.mem_of_getElem? (i := 1386) (by decide +kernel)) rfl
theorem mw_fieldLink_RX10_165_MirrorDrillModel_gUntold_I : (.fieldLink RX10 165 "MirrorDrillModel" "gUntold" "[I" : Cond) ∈ BIG := big_tab (List.mem_of_getElem? (i := 1387) (by decide +kernel)) rfl
theorem mw_fieldLink_RX10_168_MirrorDrillModel_sureMoves_I : (.fieldLink RX10 168 "MirrorDrillModel" "sureMoves" "[I" : Cond) ∈ BIG := big_tab (List.mem_of_getElem? (i := 1388) (by decide +kernel)) rfl
theorem mw_fieldLink_RX10_171_MirrorDrillModel_boxBeats_I : (.fieldLink RX10 171 "MirrorDrillModel" "boxBeats" "[I" : Cond) ∈ BIG := big_tab (List.mem_of_getElem? (i := 1392) (by decide +kernel)) rfl
theorem mw_fieldLink_RX10_174_MirrorDrillModel_boxRow_I : (.fieldLink RX10 174 "MirrorDrillModel" "boxRow" "[I" : Cond) ∈ BIG := big_tab (List.mem_of_getElem? (i := 1393) (by decide +kernel)) rfl
theorem mw_fieldLink_RX10_183_MirrorDrillModel_size_I : (.fieldLink RX10 183 "MirrorDrillModel" "size" "I" : Cond) ∈ BIG := big_tab (List.mem_of_getElem? (i := 1317) (by decide +kernel)) rfl
theorem mw_fieldLink_RX10_186_MirrorDrillModel_faultKind_I : (.fieldLink RX10 186 "MirrorDrillModel" "faultKind" "I" : Cond) ∈ BIG := big_tab (List.mem_of_getElem? (i := 1318) (by decide +kernel)) rfl
theorem mw_fieldLink_RX10_225_MirrorDrillModel_end_I : (.fieldLink RX10 225 "MirrorDrillModel" "end" "I" : Cond) ∈ BIG := big_tab (List.mem_of_getElem? (i := 1321) (by decide +kernel)) rfl
theorem mw_fieldLink_RX10_228_MirrorDrillModel_at_I : (.fieldLink RX10 228 "MirrorDrillModel" "at" "I" : Cond) ∈ BIG := big_tab (List.mem_of_getElem? (i := 1320) (by decide +kernel)) rfl
theorem mw_fieldLink_RX10_235_MirrorDrillModel_token_I : (.fieldLink RX10 235 "MirrorDrillModel" "token" "I" : Cond) ∈ BIG := big_tab (List.mem_of_getElem? (i := 1322) (by decide +kernel)) rfl
theorem mw_fieldLink_RX10_242_MirrorDrillModel_name_J : (.fieldLink RX10 242 "MirrorDrillModel" "name" "J" : Cond) ∈ BIG := big_tab (List.mem_of_getElem? (i := 1324) (by decide +kernel)) rfl
theorem mw_fieldLink_RX10_253_MirrorDrillModel_number_I : (.fieldLink RX10 253 "MirrorDrillModel" "number" "I" : Cond) ∈ BIG := big_tab (List.mem_of_getElem? (i := 1323) (by decide +kernel)) rfl
theorem mw_fieldLink_RX10_340_MirrorDrillModel_piled_I : (.fieldLink RX10 340 "MirrorDrillModel" "piled" "I" : Cond) ∈ BIG := big_tab (List.mem_of_getElem? (i := 1355) (by decide +kernel)) rfl
theorem mw_fieldLink_RX10_327_MirrorDrillModel_unitsInRule_I : (.fieldLink RX10 327 "MirrorDrillModel" "unitsInRule" "I" : Cond) ∈ BIG := big_tab (List.mem_of_getElem? (i := 1356) (by decide +kernel)) rfl
theorem mw_fieldLink_RX10_343_MirrorDrillModel_within_I : (.fieldLink RX10 343 "MirrorDrillModel" "within" "I" : Cond) ∈ BIG := big_tab (List.mem_of_getElem? (i := 1354) (by decide +kernel)) rfl
theorem mw_fieldLink_RX10_279_MirrorDrillModel_taped_I : (.fieldLink RX10 279 "MirrorDrillModel" "taped" "I" : Cond) ∈ BIG := big_tab (List.mem_of_getElem? (i := 1316) (by decide +kernel)) rfl
theorem mw_fieldLink_RX10_291_MirrorDrillModel_sights_I : (.fieldLink RX10 291 "MirrorDrillModel" "sights" "I" : Cond) ∈ BIG := big_tab (List.mem_of_getElem? (i := 1389) (by decide +kernel)) rfl
theorem mw_fieldLink_RX10_294_MirrorDrillModel_unsureSet_I : (.fieldLink RX10 294 "MirrorDrillModel" "unsureSet" "I" : Cond) ∈ BIG := big_tab (List.mem_of_getElem? (i := 1391) (by decide +kernel)) rfl
theorem mw_fieldLink_RX10_297_MirrorDrillModel_laid_I : (.fieldLink RX10 297 "MirrorDrillModel" "laid" "I" : Cond) ∈ BIG := big_tab (List.mem_of_getElem? (i := 1374) (by decide +kernel)) rfl
theorem mw_fieldLink_RX10_397_MirrorDrillModel_otherWindow_I : (.fieldLink RX10 397 "MirrorDrillModel" "otherWindow" "I" : Cond) ∈ BIG := big_tab (List.mem_of_getElem? (i := 1363) (by decide +kernel)) rfl
theorem mw_fieldLink_RX10_400_MirrorDrillModel_moreCracked_I : (.fieldLink RX10 400 "MirrorDrillModel" "moreCracked" "I" : Cond) ∈ BIG := big_tab (List.mem_of_getElem? (i := 1361) (by decide +kernel)) rfl
theorem mw_fieldLink_RX10_450_MirrorDrillModel_tail_I : (.fieldLink RX10 450 "MirrorDrillModel" "tail" "I" : Cond) ∈ BIG := big_tab (List.mem_of_getElem? (i := 1368) (by decide +kernel)) rfl
theorem mw_fieldLink_RX10_453_MirrorDrillModel_loop_I : (.fieldLink RX10 453 "MirrorDrillModel" "loop" "I" : Cond) ∈ BIG := big_tab (List.mem_of_getElem? (i := 1369) (by decide +kernel)) rfl
theorem mw_fieldLink_RX10_476_MirrorDrillModel_isOrphan_Z : (.fieldLink RX10 476 "MirrorDrillModel" "isOrphan" "Z" : Cond) ∈ BIG := big_tab (List.mem_of_getElem? (i := 1378) (by decide +kernel)) rfl
theorem mw_fieldLink_RX10_524_MirrorDrillModel_time_I : (.fieldLink RX10 524 "MirrorDrillModel" "time" "I" : Cond) ∈ BIG := big_tab (List.mem_of_getElem? (i := 1390) (by decide +kernel)) rfl
theorem mw_methodLink_RX0_3_objectInit : (.methodLink RX0 3 objectInit : Cond) ∈ BIG := big_tab (List.mem_of_getElem? (i := 288) (by decide +kernel)) rfl
theorem mw_methodLink_RX2_101_yX2_widened : (.methodLink RX2 101 yX2_widened : Cond) ∈ BIG := big_tab (List.mem_of_getElem? (i := 797) (by decide +kernel)) rfl
theorem mw_methodLink_RX2_105_yX2_stepsOf : (.methodLink RX2 105 yX2_stepsOf : Cond) ∈ BIG := big_tab (List.mem_of_getElem? (i := 802) (by decide +kernel)) rfl
theorem mw_methodLink_RX0_40_yX2_afterNear : (.methodLink RX0 40 yX2_afterNear : Cond) ∈ BIG := big_tab (List.mem_of_getElem? (i := 1076) (by decide +kernel)) rfl
theorem mw_methodLink_RX0_81_yX0_comesTrue : (.methodLink RX0 81 yX0_comesTrue : Cond) ∈ BIG := big_tab (List.mem_of_getElem? (i := 1099) (by decide +kernel)) rfl
theorem mw_methodLink_RX0_71_yX0_orderMoves : (.methodLink RX0 71 yX0_orderMoves : Cond) ∈ BIG := big_tab (List.mem_of_getElem? (i := 1095) (by decide +kernel)) rfl
theorem mw_methodLink_RX0_77_yX2_isNear : (.methodLink RX0 77 yX2_isNear : Cond) ∈ BIG := big_tab (List.mem_of_getElem? (i := 1104) (by decide +kernel)) rfl
theorem mw_methodLink_RX0_57_yX0_orderMen : (.methodLink RX0 57 yX0_orderMen : Cond) ∈ BIG := big_tab (List.mem_of_getElem? (i := 1091) (by decide +kernel)) rfl
theorem mw_methodLink_RX6_33_yJ7_copyOf_59c91 : (.methodLink RX6 33 yJ7_copyOf_59c91 : Cond) ∈ BIG := big_tab (List.mem_of_getElem? (i := 932) (by decide +kernel)) rfl
theorem mw_methodLink_RX6_19_yX6_reserve : (.methodLink RX6 19 yX6_reserve : Cond) ∈ BIG := big_tab (List.mem_of_getElem? (i := 927) (by decide +kernel)) rfl
theorem mw_methodLink_RX6_23_yX6_put : (.methodLink RX6 23 yX6_put : Cond) ∈ BIG := big_tab (List.mem_of_getElem? (i := 944) (by decide +kernel)) rfl
theorem mw_methodLink_RX0_65_yX6_add : (.methodLink RX0 65 yX6_add : Cond) ∈ BIG := big_tab (List.mem_of_getElem? (i := 1115) (by decide +kernel)) rfl
theorem mw_methodLink_RX0_50_yX0_isSoAnyway : (.methodLink RX0 50 yX0_isSoAnyway : Cond) ∈ BIG := big_tab (List.mem_of_getElem? (i := 1086) (by decide +kernel)) rfl
theorem mw_methodLink_RX0_61_yX0_layMen : (.methodLink RX0 61 yX0_layMen : Cond) ∈ BIG := big_tab (List.mem_of_getElem? (i := 1111) (by decide +kernel)) rfl
theorem mw_methodLink_RX0_94_yX0_comesTrueCracked : (.methodLink RX0 94 yX0_comesTrueCracked : Cond) ∈ BIG := big_tab (List.mem_of_getElem? (i := 1128) (by decide +kernel)) rfl
theorem mw_methodLink_RX0_90_yX0_crackMen : (.methodLink RX0 90 yX0_crackMen : Cond) ∈ BIG := big_tab (List.mem_of_getElem? (i := 1124) (by decide +kernel)) rfl
theorem mw_methodLink_RX1_3_objectInit : (.methodLink RX1 3 objectInit : Cond) ∈ BIG := big_tab (List.mem_of_getElem? (i := 207) (by decide +kernel)) rfl
theorem mw_methodLink_RX1_38_yX2_after : (.methodLink RX1 38 yX2_after : Cond) ∈ BIG := big_tab (List.mem_of_getElem? (i := 858) (by decide +kernel)) rfl
theorem mw_methodLink_RX1_34_yX1_findLoop : (.methodLink RX1 34 yX1_findLoop : Cond) ∈ BIG := big_tab (List.mem_of_getElem? (i := 854) (by decide +kernel)) rfl
theorem mw_methodLink_RX1_30_yX1_follow : (.methodLink RX1 30 yX1_follow : Cond) ∈ BIG := big_tab (List.mem_of_getElem? (i := 850) (by decide +kernel)) rfl
theorem mw_methodLink_RX2_3_objectInit : (.methodLink RX2 3 objectInit : Cond) ∈ BIG := big_tab (List.mem_of_getElem? (i := 92) (by decide +kernel)) rfl
theorem mw_methodLink_RX2_61_yJ7_fill_53178 : (.methodLink RX2 61 yJ7_fill_53178 : Cond) ∈ BIG := big_tab (List.mem_of_getElem? (i := 454) (by decide +kernel)) rfl
theorem mw_methodLink_RX2_67_yJ9_floorMod_7cf53 : (.methodLink RX2 67 yJ9_floorMod_7cf53 : Cond) ∈ BIG := big_tab (List.mem_of_getElem? (i := 663) (by decide +kernel)) rfl
theorem mw_methodLink_RX2_94_yX2_isCracked : (.methodLink RX2 94 yX2_isCracked : Cond) ∈ BIG := big_tab (List.mem_of_getElem? (i := 715) (by decide +kernel)) rfl
theorem mw_methodLink_RX2_84_yX2_stays : (.methodLink RX2 84 yX2_stays : Cond) ∈ BIG := big_tab (List.mem_of_getElem? (i := 711) (by decide +kernel)) rfl
theorem mw_methodLink_RX2_91_yX2_makes : (.methodLink RX2 91 yX2_makes : Cond) ∈ BIG := big_tab (List.mem_of_getElem? (i := 722) (by decide +kernel)) rfl
theorem mw_methodLink_RX2_80_yX2_throughWindow : (.methodLink RX2 80 yX2_throughWindow : Cond) ∈ BIG := big_tab (List.mem_of_getElem? (i := 707) (by decide +kernel)) rfl
theorem mw_methodLink_RX2_73_yX2_told : (.methodLink RX2 73 yX2_told : Cond) ∈ BIG := big_tab (List.mem_of_getElem? (i := 703) (by decide +kernel)) rfl
theorem mw_methodLink_RX2_77_yX2_doesBy : (.methodLink RX2 77 yX2_doesBy : Cond) ∈ BIG := big_tab (List.mem_of_getElem? (i := 726) (by decide +kernel)) rfl
theorem mw_methodLink_RX2_119_yX2_after : (.methodLink RX2 119 yX2_after : Cond) ∈ BIG := big_tab (List.mem_of_getElem? (i := 793) (by decide +kernel)) rfl
theorem mw_methodLink_RX3_3_objectInit : (.methodLink RX3 3 objectInit : Cond) ∈ BIG := big_tab (List.mem_of_getElem? (i := 175) (by decide +kernel)) rfl
theorem mw_methodLink_RX4_5_objectInit : (.methodLink RX4 5 objectInit : Cond) ∈ BIG := big_tab (List.mem_of_getElem? (i := 251) (by decide +kernel)) rfl
theorem mw_methodLink_RX4_49_yX2_makes : (.methodLink RX4 49 yX2_makes : Cond) ∈ BIG := big_tab (List.mem_of_getElem? (i := 985) (by decide +kernel)) rfl
theorem mw_methodLink_RX4_83_yX4_leftOf : (.methodLink RX4 83 yX4_leftOf : Cond) ∈ BIG := big_tab (List.mem_of_getElem? (i := 972) (by decide +kernel)) rfl
theorem mw_methodLink_RX4_87_yX4_ownOf : (.methodLink RX4 87 yX4_ownOf : Cond) ∈ BIG := big_tab (List.mem_of_getElem? (i := 976) (by decide +kernel)) rfl
theorem mw_methodLink_RX4_90_yX4_makes : (.methodLink RX4 90 yX4_makes : Cond) ∈ BIG := big_tab (List.mem_of_getElem? (i := 980) (by decide +kernel)) rfl
theorem mw_methodLink_RX4_80_yX4_leadsOf : (.methodLink RX4 80 yX4_leadsOf : Cond) ∈ BIG := big_tab (List.mem_of_getElem? (i := 968) (by decide +kernel)) rfl
theorem mw_methodLink_RX4_103_yJ7_copyOf_59c91 : (.methodLink RX4 103 yJ7_copyOf_59c91 : Cond) ∈ BIG := big_tab (List.mem_of_getElem? (i := 996) (by decide +kernel)) rfl
theorem mw_methodLink_RX4_97_yJ7_fill_53178 : (.methodLink RX4 97 yJ7_fill_53178 : Cond) ∈ BIG := big_tab (List.mem_of_getElem? (i := 991) (by decide +kernel)) rfl
theorem mw_methodLink_RX4_76_yX4_enqueue : (.methodLink RX4 76 yX4_enqueue : Cond) ∈ BIG := big_tab (List.mem_of_getElem? (i := 992) (by decide +kernel)) rfl
theorem mw_methodLink_RX4_68_yX4_behind : (.methodLink RX4 68 yX4_behind : Cond) ∈ BIG := big_tab (List.mem_of_getElem? (i := 999) (by decide +kernel)) rfl
theorem mw_methodLink_RX4_107_yX6_reserve : (.methodLink RX4 107 yX6_reserve : Cond) ∈ BIG := big_tab (List.mem_of_getElem? (i := 1007) (by decide +kernel)) rfl
theorem mw_methodLink_RX4_113_yX6_put : (.methodLink RX4 113 yX6_put : Cond) ∈ BIG := big_tab (List.mem_of_getElem? (i := 1008) (by decide +kernel)) rfl
theorem mw_methodLink_RX4_116_yX4_moveBetween : (.methodLink RX4 116 yX4_moveBetween : Cond) ∈ BIG := big_tab (List.mem_of_getElem? (i := 1009) (by decide +kernel)) rfl
theorem mw_methodLink_RX4_53_yX4_take : (.methodLink RX4 53 yX4_take : Cond) ∈ BIG := big_tab (List.mem_of_getElem? (i := 960) (by decide +kernel)) rfl
theorem mw_methodLink_RX4_57_yX4_layLeads : (.methodLink RX4 57 yX4_layLeads : Cond) ∈ BIG := big_tab (List.mem_of_getElem? (i := 964) (by decide +kernel)) rfl
theorem mw_methodLink_RX4_60_yX4_beginQueue : (.methodLink RX4 60 yX4_beginQueue : Cond) ∈ BIG := big_tab (List.mem_of_getElem? (i := 986) (by decide +kernel)) rfl
theorem mw_methodLink_RX4_72_yX4_layWord : (.methodLink RX4 72 yX4_layWord : Cond) ∈ BIG := big_tab (List.mem_of_getElem? (i := 1003) (by decide +kernel)) rfl
theorem mw_methodLink_RX4_123_yX4_walkTogether : (.methodLink RX4 123 yX4_walkTogether : Cond) ∈ BIG := big_tab (List.mem_of_getElem? (i := 1025) (by decide +kernel)) rfl
theorem mw_methodLink_RX4_127_yX4_goesOn : (.methodLink RX4 127 yX4_goesOn : Cond) ∈ BIG := big_tab (List.mem_of_getElem? (i := 1029) (by decide +kernel)) rfl
theorem mw_methodLink_RX4_130_yX4_cameFrom : (.methodLink RX4 130 yX4_cameFrom : Cond) ∈ BIG := big_tab (List.mem_of_getElem? (i := 1033) (by decide +kernel)) rfl
theorem mw_methodLink_RX4_119_yX4_thinOut : (.methodLink RX4 119 yX4_thinOut : Cond) ∈ BIG := big_tab (List.mem_of_getElem? (i := 1021) (by decide +kernel)) rfl
theorem mw_methodLink_RX4_136_yX4_isRing : (.methodLink RX4 136 yX4_isRing : Cond) ∈ BIG := big_tab (List.mem_of_getElem? (i := 1045) (by decide +kernel)) rfl
theorem mw_methodLink_RX4_139_yX4_gainOf : (.methodLink RX4 139 yX4_gainOf : Cond) ∈ BIG := big_tab (List.mem_of_getElem? (i := 1050) (by decide +kernel)) rfl
theorem mw_methodLink_RX5_3_objectInit : (.methodLink RX5 3 objectInit : Cond) ∈ BIG := big_tab (List.mem_of_getElem? (i := 229) (by decide +kernel)) rfl
theorem mw_methodLink_RX5_80_yX2_doesBy : (.methodLink RX5 80 yX2_doesBy : Cond) ∈ BIG := big_tab (List.mem_of_getElem? (i := 896) (by decide +kernel)) rfl
theorem mw_methodLink_RX5_73_yX5_leads : (.methodLink RX5 73 yX5_leads : Cond) ∈ BIG := big_tab (List.mem_of_getElem? (i := 891) (by decide +kernel)) rfl
theorem mw_methodLink_RX5_61_yX5_wayAt : (.methodLink RX5 61 yX5_wayAt : Cond) ∈ BIG := big_tab (List.mem_of_getElem? (i := 884) (by decide +kernel)) rfl
theorem mw_methodLink_RX5_65_yX5_waysAtEnd : (.methodLink RX5 65 yX5_waysAtEnd : Cond) ∈ BIG := big_tab (List.mem_of_getElem? (i := 887) (by decide +kernel)) rfl
theorem mw_methodLink_RX5_69_yX5_waysBehind : (.methodLink RX5 69 yX5_waysBehind : Cond) ∈ BIG := big_tab (List.mem_of_getElem? (i := 898) (by decide +kernel)) rfl
theorem mw_methodLink_RX5_88_yX5_firstBehind : (.methodLink RX5 88 yX5_firstBehind : Cond) ∈ BIG := big_tab (List.mem_of_getElem? (i := 910) (by decide +kernel)) rfl
theorem mw_methodLink_RX5_84_yX5_keyOfFirst : (.methodLink RX5 84 yX5_keyOfFirst : Cond) ∈ BIG := big_tab (List.mem_of_getElem? (i := 906) (by decide +kernel)) rfl
theorem mw_methodLink_RX5_51_yX5_layWays : (.methodLink RX5 51 yX5_layWays : Cond) ∈ BIG := big_tab (List.mem_of_getElem? (i := 880) (by decide +kernel)) rfl
theorem mw_methodLink_RX5_58_yX5_addUp : (.methodLink RX5 58 yX5_addUp : Cond) ∈ BIG := big_tab (List.mem_of_getElem? (i := 902) (by decide +kernel)) rfl
theorem mw_methodLink_RX5_45_yX5_seekInRing : (.methodLink RX5 45 yX5_seekInRing : Cond) ∈ BIG := big_tab (List.mem_of_getElem? (i := 876) (by decide +kernel)) rfl
theorem mw_methodLink_RX6_3_objectInit : (.methodLink RX6 3 objectInit : Cond) ∈ BIG := big_tab (List.mem_of_getElem? (i := 194) (by decide +kernel)) rfl
theorem mw_methodLink_RX7_3_objectInit : (.methodLink RX7 3 objectInit : Cond) ∈ BIG := big_tab (List.mem_of_getElem? (i := 35) (by decide +kernel)) rfl
theorem mw_methodLink_RX7_69_yX7_isLetter : (.methodLink RX7 69 yX7_isLetter : Cond) ∈ BIG := big_tab (List.mem_of_getElem? (i := 464) (by decide +kernel)) rfl
theorem mw_methodLink_RX7_104_yJ0_length_8abf5 : (.methodLink RX7 104 yJ0_length_8abf5 : Cond) ∈ BIG := big_tab (List.mem_of_getElem? (i := 476) (by decide +kernel)) rfl
theorem mw_methodLink_RX7_107_yJ0_charAt_5068e : (.methodLink RX7 107 yJ0_charAt_5068e : Cond) ∈ BIG := big_tab (List.mem_of_getElem? (i := 486) (by decide +kernel)) rfl
theorem mw_methodLink_RX7_83_yX7_isDigit : (.methodLink RX7 83 yX7_isDigit : Cond) ∈ BIG := big_tab (List.mem_of_getElem? (i := 524) (by decide +kernel)) rfl
theorem mw_methodLink_RX7_65_yX7_isBlank : (.methodLink RX7 65 yX7_isBlank : Cond) ∈ BIG := big_tab (List.mem_of_getElem? (i := 461) (by decide +kernel)) rfl
theorem mw_methodLink_RX7_72_yX7_packWord : (.methodLink RX7 72 yX7_packWord : Cond) ∈ BIG := big_tab (List.mem_of_getElem? (i := 467) (by decide +kernel)) rfl
theorem mw_methodLink_RX7_79_yX7_wordToken : (.methodLink RX7 79 yX7_wordToken : Cond) ∈ BIG := big_tab (List.mem_of_getElem? (i := 472) (by decide +kernel)) rfl
theorem mw_methodLink_RX7_86_yX7_scanNumber : (.methodLink RX7 86 yX7_scanNumber : Cond) ∈ BIG := big_tab (List.mem_of_getElem? (i := 527) (by decide +kernel)) rfl
theorem mw_methodLink_RX7_91_yJ0_indexOf_0f7a4 : (.methodLink RX7 91 yJ0_indexOf_0f7a4 : Cond) ∈ BIG := big_tab (List.mem_of_getElem? (i := 532) (by decide +kernel)) rfl
theorem mw_methodLink_RX7_51_yX2_clear : (.methodLink RX7 51 yX2_clear : Cond) ∈ BIG := big_tab (List.mem_of_getElem? (i := 450) (by decide +kernel)) rfl
theorem mw_methodLink_RX7_56_yX7_advance : (.methodLink RX7 56 yX7_advance : Cond) ∈ BIG := big_tab (List.mem_of_getElem? (i := 457) (by decide +kernel)) rfl
theorem mw_methodLink_RX7_111_yX7_refuse : (.methodLink RX7 111 yX7_refuse : Cond) ∈ BIG := big_tab (List.mem_of_getElem? (i := 605) (by decide +kernel)) rfl
theorem mw_methodLink_RX7_117_yX7_takeNumber : (.methodLink RX7 117 yX7_takeNumber : Cond) ∈ BIG := big_tab (List.mem_of_getElem? (i := 609) (by decide +kernel)) rfl
theorem mw_methodLink_RX7_120_yX7_isTold : (.methodLink RX7 120 yX7_isTold : Cond) ∈ BIG := big_tab (List.mem_of_getElem? (i := 601) (by decide +kernel)) rfl
theorem mw_methodLink_RX7_225_yX7_joined : (.methodLink RX7 225 yX7_joined : Cond) ∈ BIG := big_tab (List.mem_of_getElem? (i := 656) (by decide +kernel)) rfl
theorem mw_methodLink_RX7_222_yX7_valueOf : (.methodLink RX7 222 yX7_valueOf : Cond) ∈ BIG := big_tab (List.mem_of_getElem? (i := 637) (by decide +kernel)) rfl
theorem mw_methodLink_RX7_203_yX7_readUnit : (.methodLink RX7 203 yX7_readUnit : Cond) ∈ BIG := big_tab (List.mem_of_getElem? (i := 629) (by decide +kernel)) rfl
theorem mw_methodLink_RX7_206_yX7_readNot : (.methodLink RX7 206 yX7_readNot : Cond) ∈ BIG := big_tab (List.mem_of_getElem? (i := 645) (by decide +kernel)) rfl
theorem mw_methodLink_RX7_167_yX7_readFormula : (.methodLink RX7 167 yX7_readFormula : Cond) ∈ BIG := big_tab (List.mem_of_getElem? (i := 625) (by decide +kernel)) rfl
theorem mw_methodLink_RX7_209_yX7_levelOf : (.methodLink RX7 209 yX7_levelOf : Cond) ∈ BIG := big_tab (List.mem_of_getElem? (i := 649) (by decide +kernel)) rfl
theorem mw_methodLink_RX7_212_yX7_joinParts : (.methodLink RX7 212 yX7_joinParts : Cond) ∈ BIG := big_tab (List.mem_of_getElem? (i := 652) (by decide +kernel)) rfl
theorem mw_methodLink_RX7_219_yX7_layPart : (.methodLink RX7 219 yX7_layPart : Cond) ∈ BIG := big_tab (List.mem_of_getElem? (i := 633) (by decide +kernel)) rfl
theorem mw_methodLink_RX7_152_yX7_expect : (.methodLink RX7 152 yX7_expect : Cond) ∈ BIG := big_tab (List.mem_of_getElem? (i := 641) (by decide +kernel)) rfl
theorem mw_methodLink_RX7_158_yX7_ruleNamed : (.methodLink RX7 158 yX7_ruleNamed : Cond) ∈ BIG := big_tab (List.mem_of_getElem? (i := 621) (by decide +kernel)) rfl
theorem mw_methodLink_RX7_171_yX2_setMade : (.methodLink RX7 171 yX2_setMade : Cond) ∈ BIG := big_tab (List.mem_of_getElem? (i := 659) (by decide +kernel)) rfl
theorem mw_methodLink_RX7_132_yX7_takeMove : (.methodLink RX7 132 yX7_takeMove : Cond) ∈ BIG := big_tab (List.mem_of_getElem? (i := 613) (by decide +kernel)) rfl
theorem mw_methodLink_RX7_182_yX7_readBy : (.methodLink RX7 182 yX7_readBy : Cond) ∈ BIG := big_tab (List.mem_of_getElem? (i := 675) (by decide +kernel)) rfl
theorem mw_methodLink_RX7_185_yX7_readMarks : (.methodLink RX7 185 yX7_readMarks : Cond) ∈ BIG := big_tab (List.mem_of_getElem? (i := 679) (by decide +kernel)) rfl
theorem mw_methodLink_RX7_188_yX7_readWindow : (.methodLink RX7 188 yX7_readWindow : Cond) ∈ BIG := big_tab (List.mem_of_getElem? (i := 683) (by decide +kernel)) rfl
theorem mw_methodLink_RX7_126_yX7_startsLine : (.methodLink RX7 126 yX7_startsLine : Cond) ∈ BIG := big_tab (List.mem_of_getElem? (i := 597) (by decide +kernel)) rfl
theorem mw_methodLink_RX7_138_yX7_readRule : (.methodLink RX7 138 yX7_readRule : Cond) ∈ BIG := big_tab (List.mem_of_getElem? (i := 617) (by decide +kernel)) rfl
theorem mw_methodLink_RX7_142_yX7_readMan : (.methodLink RX7 142 yX7_readMan : Cond) ∈ BIG := big_tab (List.mem_of_getElem? (i := 666) (by decide +kernel)) rfl
theorem mw_methodLink_RX7_145_yX7_readWorths : (.methodLink RX7 145 yX7_readWorths : Cond) ∈ BIG := big_tab (List.mem_of_getElem? (i := 687) (by decide +kernel)) rfl
theorem mw_methodLink_RX8_3_objectInit : (.methodLink RX8 3 objectInit : Cond) ∈ BIG := big_tab (List.mem_of_getElem? (i := 322) (by decide +kernel)) rfl
theorem mw_methodLink_RX8_55_yJ7_fill_d0a16 : (.methodLink RX8 55 yJ7_fill_d0a16 : Cond) ∈ BIG := big_tab (List.mem_of_getElem? (i := 1188) (by decide +kernel)) rfl
theorem mw_methodLink_RX8_67_yX8_counts : (.methodLink RX8 67 yX8_counts : Cond) ∈ BIG := big_tab (List.mem_of_getElem? (i := 1191) (by decide +kernel)) rfl
theorem mw_methodLink_RX8_71_yX8_demand : (.methodLink RX8 71 yX8_demand : Cond) ∈ BIG := big_tab (List.mem_of_getElem? (i := 1195) (by decide +kernel)) rfl
theorem mw_methodLink_RX8_89_yX8_isAsSeen : (.methodLink RX8 89 yX8_isAsSeen : Cond) ∈ BIG := big_tab (List.mem_of_getElem? (i := 1223) (by decide +kernel)) rfl
theorem mw_methodLink_RX8_93_yX2_after : (.methodLink RX8 93 yX2_after : Cond) ∈ BIG := big_tab (List.mem_of_getElem? (i := 1227) (by decide +kernel)) rfl
theorem mw_methodLink_RX8_99_yX2_throughWindow : (.methodLink RX8 99 yX2_throughWindow : Cond) ∈ BIG := big_tab (List.mem_of_getElem? (i := 1228) (by decide +kernel)) rfl
theorem mw_methodLink_RX8_119_yX8_doubts : (.methodLink RX8 119 yX8_doubts : Cond) ∈ BIG := big_tab (List.mem_of_getElem? (i := 1210) (by decide +kernel)) rfl
theorem mw_methodLink_RX8_123_yX8_listUnsure : (.methodLink RX8 123 yX8_listUnsure : Cond) ∈ BIG := big_tab (List.mem_of_getElem? (i := 1206) (by decide +kernel)) rfl
theorem mw_methodLink_RX8_130_yJ7_fill_53178 : (.methodLink RX8 130 yJ7_fill_53178 : Cond) ∈ BIG := big_tab (List.mem_of_getElem? (i := 1214) (by decide +kernel)) rfl
theorem mw_methodLink_RX8_133_yX8_rowOfCase : (.methodLink RX8 133 yX8_rowOfCase : Cond) ∈ BIG := big_tab (List.mem_of_getElem? (i := 1215) (by decide +kernel)) rfl
theorem mw_methodLink_RX8_137_yX8_holds : (.methodLink RX8 137 yX8_holds : Cond) ∈ BIG := big_tab (List.mem_of_getElem? (i := 1219) (by decide +kernel)) rfl
theorem mw_methodLink_RX8_141_yX8_noteMoves : (.methodLink RX8 141 yX8_noteMoves : Cond) ∈ BIG := big_tab (List.mem_of_getElem? (i := 1229) (by decide +kernel)) rfl
theorem mw_methodLink_RX8_103_yX8_gather : (.methodLink RX8 103 yX8_gather : Cond) ∈ BIG := big_tab (List.mem_of_getElem? (i := 1184) (by decide +kernel)) rfl
theorem mw_methodLink_RX8_110_yX8_tryAll : (.methodLink RX8 110 yX8_tryAll : Cond) ∈ BIG := big_tab (List.mem_of_getElem? (i := 1202) (by decide +kernel)) rfl
theorem mw_methodLink_RX8_149_yX2_isCracked : (.methodLink RX8 149 yX2_isCracked : Cond) ∈ BIG := big_tab (List.mem_of_getElem? (i := 1254) (by decide +kernel)) rfl
theorem mw_methodLink_RX9_1_objectInit : (.methodLink RX9 1 objectInit : Cond) ∈ BIG := big_tab (List.mem_of_getElem? (i := 27) (by decide +kernel)) rfl
theorem mw_methodLink_RX9_19_yX7_init : (.methodLink RX9 19 yX7_init : Cond) ∈ BIG := big_tab (List.mem_of_getElem? (i := 32) (by decide +kernel)) rfl
theorem mw_methodLink_RX9_26_yX2_init : (.methodLink RX9 26 yX2_init : Cond) ∈ BIG := big_tab (List.mem_of_getElem? (i := 89) (by decide +kernel)) rfl
theorem mw_methodLink_RX9_42_yX3_init : (.methodLink RX9 42 yX3_init : Cond) ∈ BIG := big_tab (List.mem_of_getElem? (i := 172) (by decide +kernel)) rfl
theorem mw_methodLink_RX9_56_yX6_init : (.methodLink RX9 56 yX6_init : Cond) ∈ BIG := big_tab (List.mem_of_getElem? (i := 191) (by decide +kernel)) rfl
theorem mw_methodLink_RX9_66_yX1_init : (.methodLink RX9 66 yX1_init : Cond) ∈ BIG := big_tab (List.mem_of_getElem? (i := 204) (by decide +kernel)) rfl
theorem mw_methodLink_RX9_73_yX5_init : (.methodLink RX9 73 yX5_init : Cond) ∈ BIG := big_tab (List.mem_of_getElem? (i := 226) (by decide +kernel)) rfl
theorem mw_methodLink_RX9_80_yX4_init : (.methodLink RX9 80 yX4_init : Cond) ∈ BIG := big_tab (List.mem_of_getElem? (i := 248) (by decide +kernel)) rfl
theorem mw_methodLink_RX9_87_yX0_init : (.methodLink RX9 87 yX0_init : Cond) ∈ BIG := big_tab (List.mem_of_getElem? (i := 285) (by decide +kernel)) rfl
theorem mw_methodLink_RX9_94_yX8_init : (.methodLink RX9 94 yX8_init : Cond) ∈ BIG := big_tab (List.mem_of_getElem? (i := 319) (by decide +kernel)) rfl
theorem mw_methodLink_RX9_99_yX9_tapeNumber : (.methodLink RX9 99 yX9_tapeNumber : Cond) ∈ BIG := big_tab (List.mem_of_getElem? (i := 431) (by decide +kernel)) rfl
theorem mw_methodLink_RX9_103_yX7_begin : (.methodLink RX9 103 yX7_begin : Cond) ∈ BIG := big_tab (List.mem_of_getElem? (i := 443) (by decide +kernel)) rfl
theorem mw_methodLink_RX9_107_yX7_hasMore : (.methodLink RX9 107 yX7_hasMore : Cond) ∈ BIG := big_tab (List.mem_of_getElem? (i := 589) (by decide +kernel)) rfl
theorem mw_methodLink_RX9_111_yX7_readLine : (.methodLink RX9 111 yX7_readLine : Cond) ∈ BIG := big_tab (List.mem_of_getElem? (i := 593) (by decide +kernel)) rfl
theorem mw_methodLink_RX9_114_yX7_faultFound : (.methodLink RX9 114 yX7_faultFound : Cond) ∈ BIG := big_tab (List.mem_of_getElem? (i := 691) (by decide +kernel)) rfl
theorem mw_methodLink_RX9_118_yX7_placeOfFault : (.methodLink RX9 118 yX7_placeOfFault : Cond) ∈ BIG := big_tab (List.mem_of_getElem? (i := 695) (by decide +kernel)) rfl
theorem mw_methodLink_RX9_121_yX2_settle : (.methodLink RX9 121 yX2_settle : Cond) ∈ BIG := big_tab (List.mem_of_getElem? (i := 699) (by decide +kernel)) rfl
theorem mw_methodLink_RX9_128_yX3_begin : (.methodLink RX9 128 yX3_begin : Cond) ∈ BIG := big_tab (List.mem_of_getElem? (i := 730) (by decide +kernel)) rfl
theorem mw_methodLink_RX9_131_yJ7_fill_53178 : (.methodLink RX9 131 yJ7_fill_53178 : Cond) ∈ BIG := big_tab (List.mem_of_getElem? (i := 734) (by decide +kernel)) rfl
theorem mw_methodLink_RX9_137_yX6_clear : (.methodLink RX9 137 yX6_clear : Cond) ∈ BIG := big_tab (List.mem_of_getElem? (i := 735) (by decide +kernel)) rfl
theorem mw_methodLink_RX9_140_yX1_forget : (.methodLink RX9 140 yX1_forget : Cond) ∈ BIG := big_tab (List.mem_of_getElem? (i := 739) (by decide +kernel)) rfl
theorem mw_methodLink_RX9_143_yX8_forget : (.methodLink RX9 143 yX8_forget : Cond) ∈ BIG := big_tab (List.mem_of_getElem? (i := 743) (by decide +kernel)) rfl
theorem mw_methodLink_RX9_147_yX2_isMan : (.methodLink RX9 147 yX2_isMan : Cond) ∈ BIG := big_tab (List.mem_of_getElem? (i := 755) (by decide +kernel)) rfl
theorem mw_methodLink_RX9_151_yX3_row : (.methodLink RX9 151 yX3_row : Cond) ∈ BIG := big_tab (List.mem_of_getElem? (i := 759) (by decide +kernel)) rfl
theorem mw_methodLink_RX9_155_yX9_cell : (.methodLink RX9 155 yX9_cell : Cond) ∈ BIG := big_tab (List.mem_of_getElem? (i := 763) (by decide +kernel)) rfl
theorem mw_methodLink_RX9_159_yX2_isRule : (.methodLink RX9 159 yX2_isRule : Cond) ∈ BIG := big_tab (List.mem_of_getElem? (i := 770) (by decide +kernel)) rfl
theorem mw_methodLink_RX9_162_yX2_isMove : (.methodLink RX9 162 yX2_isMove : Cond) ∈ BIG := big_tab (List.mem_of_getElem? (i := 774) (by decide +kernel)) rfl
theorem mw_methodLink_RX9_165_yX9_view : (.methodLink RX9 165 yX9_view : Cond) ∈ BIG := big_tab (List.mem_of_getElem? (i := 778) (by decide +kernel)) rfl
theorem mw_methodLink_RX9_169_yX2_makes : (.methodLink RX9 169 yX2_makes : Cond) ∈ BIG := big_tab (List.mem_of_getElem? (i := 779) (by decide +kernel)) rfl
theorem mw_methodLink_RX9_173_yX3_beats : (.methodLink RX9 173 yX3_beats : Cond) ∈ BIG := big_tab (List.mem_of_getElem? (i := 784) (by decide +kernel)) rfl
theorem mw_methodLink_RX9_177_yX2_afterBeats : (.methodLink RX9 177 yX2_afterBeats : Cond) ∈ BIG := big_tab (List.mem_of_getElem? (i := 789) (by decide +kernel)) rfl
theorem mw_methodLink_RX9_181_yX3_act : (.methodLink RX9 181 yX3_act : Cond) ∈ BIG := big_tab (List.mem_of_getElem? (i := 806) (by decide +kernel)) rfl
theorem mw_methodLink_RX9_184_yX9_with : (.methodLink RX9 184 yX9_with : Cond) ∈ BIG := big_tab (List.mem_of_getElem? (i := 817) (by decide +kernel)) rfl
theorem mw_methodLink_RX9_188_yX3_takeBack : (.methodLink RX9 188 yX3_takeBack : Cond) ∈ BIG := big_tab (List.mem_of_getElem? (i := 822) (by decide +kernel)) rfl
theorem mw_methodLink_RX9_191_yX3_doAgain : (.methodLink RX9 191 yX3_doAgain : Cond) ∈ BIG := big_tab (List.mem_of_getElem? (i := 830) (by decide +kernel)) rfl
theorem mw_methodLink_RX9_194_yX2_worthOf : (.methodLink RX9 194 yX2_worthOf : Cond) ∈ BIG := big_tab (List.mem_of_getElem? (i := 838) (by decide +kernel)) rfl
theorem mw_methodLink_RX9_198_yX1_comesRound : (.methodLink RX9 198 yX1_comesRound : Cond) ∈ BIG := big_tab (List.mem_of_getElem? (i := 846) (by decide +kernel)) rfl
theorem mw_methodLink_RX9_202_yX1_tail : (.methodLink RX9 202 yX1_tail : Cond) ∈ BIG := big_tab (List.mem_of_getElem? (i := 859) (by decide +kernel)) rfl
theorem mw_methodLink_RX9_205_yX1_loop : (.methodLink RX9 205 yX1_loop : Cond) ∈ BIG := big_tab (List.mem_of_getElem? (i := 863) (by decide +kernel)) rfl
theorem mw_methodLink_RX9_208_yX5_seek : (.methodLink RX9 208 yX5_seek : Cond) ∈ BIG := big_tab (List.mem_of_getElem? (i := 871) (by decide +kernel)) rfl
theorem mw_methodLink_RX9_212_yX5_count : (.methodLink RX9 212 yX5_count : Cond) ∈ BIG := big_tab (List.mem_of_getElem? (i := 915) (by decide +kernel)) rfl
theorem mw_methodLink_RX9_215_yX5_firstDoes : (.methodLink RX9 215 yX5_firstDoes : Cond) ∈ BIG := big_tab (List.mem_of_getElem? (i := 919) (by decide +kernel)) rfl
theorem mw_methodLink_RX9_219_yX6_add : (.methodLink RX9 219 yX6_add : Cond) ∈ BIG := big_tab (List.mem_of_getElem? (i := 923) (by decide +kernel)) rfl
theorem mw_methodLink_RX9_230_yX4_shortestUnmade : (.methodLink RX9 230 yX4_shortestUnmade : Cond) ∈ BIG := big_tab (List.mem_of_getElem? (i := 956) (by decide +kernel)) rfl
theorem mw_methodLink_RX9_234_yX4_isOneToOne : (.methodLink RX9 234 yX4_isOneToOne : Cond) ∈ BIG := big_tab (List.mem_of_getElem? (i := 1017) (by decide +kernel)) rfl
theorem mw_methodLink_RX9_238_yX4_keepsWorth : (.methodLink RX9 238 yX4_keepsWorth : Cond) ∈ BIG := big_tab (List.mem_of_getElem? (i := 1041) (by decide +kernel)) rfl
theorem mw_methodLink_RX9_328_yJ13_bitCount_95d88 : (.methodLink RX9 328 yJ13_bitCount_95d88 : Cond) ∈ BIG := big_tab (List.mem_of_getElem? (i := 1062) (by decide +kernel)) rfl
theorem mw_methodLink_RX9_241_yX9_differing : (.methodLink RX9 241 yX9_differing : Cond) ∈ BIG := big_tab (List.mem_of_getElem? (i := 1058) (by decide +kernel)) rfl
theorem mw_methodLink_RX9_245_yX0_aim : (.methodLink RX9 245 yX0_aim : Cond) ∈ BIG := big_tab (List.mem_of_getElem? (i := 1072) (by decide +kernel)) rfl
theorem mw_methodLink_RX9_249_yX0_fewestOrdered : (.methodLink RX9 249 yX0_fewestOrdered : Cond) ∈ BIG := big_tab (List.mem_of_getElem? (i := 1082) (by decide +kernel)) rfl
theorem mw_methodLink_RX9_253_yX0_fewestCracked : (.methodLink RX9 253 yX0_fewestCracked : Cond) ∈ BIG := big_tab (List.mem_of_getElem? (i := 1120) (by decide +kernel)) rfl
theorem mw_methodLink_RX9_256_yX6_number : (.methodLink RX9 256 yX6_number : Cond) ∈ BIG := big_tab (List.mem_of_getElem? (i := 1138) (by decide +kernel)) rfl
theorem mw_methodLink_RX9_259_yX8_tell : (.methodLink RX9 259 yX8_tell : Cond) ∈ BIG := big_tab (List.mem_of_getElem? (i := 1146) (by decide +kernel)) rfl
theorem mw_methodLink_RX9_263_yX8_takeAway : (.methodLink RX9 263 yX8_takeAway : Cond) ∈ BIG := big_tab (List.mem_of_getElem? (i := 1154) (by decide +kernel)) rfl
theorem mw_methodLink_RX9_267_yJ6_bitCount_0f7a4 : (.methodLink RX9 267 yJ6_bitCount_0f7a4 : Cond) ∈ BIG := big_tab (List.mem_of_getElem? (i := 1166) (by decide +kernel)) rfl
theorem mw_methodLink_RX9_272_yX8_doubt : (.methodLink RX9 272 yX8_doubt : Cond) ∈ BIG := big_tab (List.mem_of_getElem? (i := 1172) (by decide +kernel)) rfl
theorem mw_methodLink_RX9_275_yX8_fitting : (.methodLink RX9 275 yX8_fitting : Cond) ∈ BIG := big_tab (List.mem_of_getElem? (i := 1180) (by decide +kernel)) rfl
theorem mw_methodLink_RX9_279_yX8_doubts : (.methodLink RX9 279 yX8_doubts : Cond) ∈ BIG := big_tab (List.mem_of_getElem? (i := 1237) (by decide +kernel)) rfl
theorem mw_methodLink_RX9_282_yX8_movesThatFit : (.methodLink RX9 282 yX8_movesThatFit : Cond) ∈ BIG := big_tab (List.mem_of_getElem? (i := 1238) (by decide +kernel)) rfl
theorem mw_methodLink_RX9_288_yX8_nothingWrong : (.methodLink RX9 288 yX8_nothingWrong : Cond) ∈ BIG := big_tab (List.mem_of_getElem? (i := 1246) (by decide +kernel)) rfl
theorem mw_methodLink_RX9_291_yX8_menMaybeCracked : (.methodLink RX9 291 yX8_menMaybeCracked : Cond) ∈ BIG := big_tab (List.mem_of_getElem? (i := 1250) (by decide +kernel)) rfl
theorem mw_methodLink_RX9_294_yX8_menMaybeWindowed : (.methodLink RX9 294 yX8_menMaybeWindowed : Cond) ∈ BIG := big_tab (List.mem_of_getElem? (i := 1255) (by decide +kernel)) rfl
theorem mw_methodLink_RX9_300_yX3_actsDone : (.methodLink RX9 300 yX3_actsDone : Cond) ∈ BIG := big_tab (List.mem_of_getElem? (i := 1271) (by decide +kernel)) rfl
theorem mw_methodLink_RX9_303_yX3_actsTakenBack : (.methodLink RX9 303 yX3_actsTakenBack : Cond) ∈ BIG := big_tab (List.mem_of_getElem? (i := 1275) (by decide +kernel)) rfl
theorem mw_methodLink_RX9_306_yX8_sights : (.methodLink RX9 306 yX8_sights : Cond) ∈ BIG := big_tab (List.mem_of_getElem? (i := 1279) (by decide +kernel)) rfl
theorem mw_methodLink_RX9_316_yX6_size : (.methodLink RX9 316 yX6_size : Cond) ∈ BIG := big_tab (List.mem_of_getElem? (i := 1283) (by decide +kernel)) rfl
theorem mw_methodLink_RX9_319_yX8_doubted : (.methodLink RX9 319 yX8_doubted : Cond) ∈ BIG := big_tab (List.mem_of_getElem? (i := 1287) (by decide +kernel)) rfl
theorem mw_methodLink_RX10_382_yX10_layFirst : (.methodLink RX10 382 yX10_layFirst : Cond) ∈ BIG := big_tab (List.mem_of_getElem? (i := 1306) (by decide +kernel)) rfl
theorem mw_methodLink_RX10_385_yX10_keepNow : (.methodLink RX10 385 yX10_keepNow : Cond) ∈ BIG := big_tab (List.mem_of_getElem? (i := 1310) (by decide +kernel)) rfl
theorem mw_methodLink_RX10_1_objectInit : (.methodLink RX10 1 objectInit : Cond) ∈ BIG := big_tab (List.mem_of_getElem? (i := 1296) (by decide +kernel)) rfl
theorem mw_methodLink_RX10_177_yX10_clearBank : (.methodLink RX10 177 yX10_clearBank : Cond) ∈ BIG := big_tab (List.mem_of_getElem? (i := 1298) (by decide +kernel)) rfl
theorem mw_methodLink_RX10_180_yX10_begin : (.methodLink RX10 180 yX10_begin : Cond) ∈ BIG := big_tab (List.mem_of_getElem? (i := 1302) (by decide +kernel)) rfl
theorem mw_methodLink_RX10_231_yX10_sign : (.methodLink RX10 231 yX10_sign : Cond) ∈ BIG := big_tab (List.mem_of_getElem? (i := 1564) (by decide +kernel)) rfl
theorem mw_methodLink_RX10_238_yX10_isLetter : (.methodLink RX10 238 yX10_isLetter : Cond) ∈ BIG := big_tab (List.mem_of_getElem? (i := 1568) (by decide +kernel)) rfl
theorem mw_methodLink_RX10_246_yX10_isKept : (.methodLink RX10 246 yX10_isKept : Cond) ∈ BIG := big_tab (List.mem_of_getElem? (i := 1571) (by decide +kernel)) rfl
theorem mw_methodLink_RX10_250_yX10_isDigit : (.methodLink RX10 250 yX10_isDigit : Cond) ∈ BIG := big_tab (List.mem_of_getElem? (i := 1592) (by decide +kernel)) rfl
theorem mw_methodLink_RX10_256_yX10_isSign : (.methodLink RX10 256 yX10_isSign : Cond) ∈ BIG := big_tab (List.mem_of_getElem? (i := 1595) (by decide +kernel)) rfl
theorem mw_methodLink_RX10_259_yX10_fails : (.methodLink RX10 259 yX10_fails : Cond) ∈ BIG := big_tab (List.mem_of_getElem? (i := 1618) (by decide +kernel)) rfl
theorem mw_methodLink_RX10_263_yX10_isGood : (.methodLink RX10 263 yX10_isGood : Cond) ∈ BIG := big_tab (List.mem_of_getElem? (i := 1598) (by decide +kernel)) rfl
theorem mw_methodLink_RX10_267_yX10_goOn : (.methodLink RX10 267 yX10_goOn : Cond) ∈ BIG := big_tab (List.mem_of_getElem? (i := 1560) (by decide +kernel)) rfl
theorem mw_methodLink_RX10_270_yX10_misplaced : (.methodLink RX10 270 yX10_misplaced : Cond) ∈ BIG := big_tab (List.mem_of_getElem? (i := 1614) (by decide +kernel)) rfl
theorem mw_methodLink_RX10_300_yX10_isWord : (.methodLink RX10 300 yX10_isWord : Cond) ∈ BIG := big_tab (List.mem_of_getElem? (i := 1610) (by decide +kernel)) rfl
theorem mw_methodLink_RX10_316_yX10_isSignHere : (.methodLink RX10 316 yX10_isSignHere : Cond) ∈ BIG := big_tab (List.mem_of_getElem? (i := 1646) (by decide +kernel)) rfl
theorem mw_methodLink_RX10_355_yX10_wordHere : (.methodLink RX10 355 yX10_wordHere : Cond) ∈ BIG := big_tab (List.mem_of_getElem? (i := 1650) (by decide +kernel)) rfl
theorem mw_methodLink_RX10_346_yX10_pushE : (.methodLink RX10 346 yX10_pushE : Cond) ∈ BIG := big_tab (List.mem_of_getElem? (i := 1638) (by decide +kernel)) rfl
theorem mw_methodLink_RX10_358_yX10_emit : (.methodLink RX10 358 yX10_emit : Cond) ∈ BIG := big_tab (List.mem_of_getElem? (i := 1654) (by decide +kernel)) rfl
theorem mw_methodLink_RX10_361_yX10_rankHere : (.methodLink RX10 361 yX10_rankHere : Cond) ∈ BIG := big_tab (List.mem_of_getElem? (i := 1662) (by decide +kernel)) rfl
theorem mw_methodLink_RX10_364_yX10_isCompared : (.methodLink RX10 364 yX10_isCompared : Cond) ∈ BIG := big_tab (List.mem_of_getElem? (i := 1666) (by decide +kernel)) rfl
theorem mw_methodLink_RX10_319_yX10_must : (.methodLink RX10 319 yX10_must : Cond) ∈ BIG := big_tab (List.mem_of_getElem? (i := 1670) (by decide +kernel)) rfl
theorem mw_methodLink_RX10_349_yX10_unit : (.methodLink RX10 349 yX10_unit : Cond) ∈ BIG := big_tab (List.mem_of_getElem? (i := 1642) (by decide +kernel)) rfl
theorem mw_methodLink_RX10_352_yX10_behindUnit : (.methodLink RX10 352 yX10_behindUnit : Cond) ∈ BIG := big_tab (List.mem_of_getElem? (i := 1658) (by decide +kernel)) rfl
theorem mw_methodLink_RX10_323_yX10_ruleHere : (.methodLink RX10 323 yX10_ruleHere : Cond) ∈ BIG := big_tab (List.mem_of_getElem? (i := 1630) (by decide +kernel)) rfl
theorem mw_methodLink_RX10_330_yX10_e : (.methodLink RX10 330 yX10_e : Cond) ∈ BIG := big_tab (List.mem_of_getElem? (i := 1634) (by decide +kernel)) rfl
theorem mw_methodLink_RX10_306_yX10_numeral : (.methodLink RX10 306 yX10_numeral : Cond) ∈ BIG := big_tab (List.mem_of_getElem? (i := 1622) (by decide +kernel)) rfl
theorem mw_methodLink_RX10_333_yX10_readBy : (.methodLink RX10 333 yX10_readBy : Cond) ∈ BIG := big_tab (List.mem_of_getElem? (i := 1678) (by decide +kernel)) rfl
theorem mw_methodLink_RX10_337_yX10_flag : (.methodLink RX10 337 yX10_flag : Cond) ∈ BIG := big_tab (List.mem_of_getElem? (i := 1682) (by decide +kernel)) rfl
theorem mw_methodLink_RX10_303_yX10_isFull : (.methodLink RX10 303 yX10_isFull : Cond) ∈ BIG := big_tab (List.mem_of_getElem? (i := 1606) (by decide +kernel)) rfl
theorem mw_methodLink_RX10_310_yX10_readRule : (.methodLink RX10 310 yX10_readRule : Cond) ∈ BIG := big_tab (List.mem_of_getElem? (i := 1626) (by decide +kernel)) rfl
theorem mw_methodLink_RX10_313_yX10_readMan : (.methodLink RX10 313 yX10_readMan : Cond) ∈ BIG := big_tab (List.mem_of_getElem? (i := 1674) (by decide +kernel)) rfl
theorem mw_methodLink_RX10_367_yX10_two : (.methodLink RX10 367 yX10_two : Cond) ∈ BIG := big_tab (List.mem_of_getElem? (i := 1694) (by decide +kernel)) rfl
theorem mw_methodLink_RX10_371_yX10_comes : (.methodLink RX10 371 yX10_comes : Cond) ∈ BIG := big_tab (List.mem_of_getElem? (i := 1690) (by decide +kernel)) rfl
theorem mw_methodLink_RX10_285_yX10_readLine : (.methodLink RX10 285 yX10_readLine : Cond) ∈ BIG := big_tab (List.mem_of_getElem? (i := 1602) (by decide +kernel)) rfl
theorem mw_methodLink_RX10_288_yX10_layTables : (.methodLink RX10 288 yX10_layTables : Cond) ∈ BIG := big_tab (List.mem_of_getElem? (i := 1686) (by decide +kernel)) rfl
theorem mw_methodLink_RX10_375_yX10_manyOf : (.methodLink RX10 375 yX10_manyOf : Cond) ∈ BIG := big_tab (List.mem_of_getElem? (i := 1709) (by decide +kernel)) rfl
theorem mw_methodLink_RX10_378_yX10_isIn : (.methodLink RX10 378 yX10_isIn : Cond) ∈ BIG := big_tab (List.mem_of_getElem? (i := 1713) (by decide +kernel)) rfl
theorem mw_methodLink_RX10_403_yX10_stays : (.methodLink RX10 403 yX10_stays : Cond) ∈ BIG := big_tab (List.mem_of_getElem? (i := 1765) (by decide +kernel)) rfl
theorem mw_methodLink_RX10_406_yX10_windowOf : (.methodLink RX10 406 yX10_windowOf : Cond) ∈ BIG := big_tab (List.mem_of_getElem? (i := 1769) (by decide +kernel)) rfl
theorem mw_methodLink_RX10_409_yX10_makes : (.methodLink RX10 409 yX10_makes : Cond) ∈ BIG := big_tab (List.mem_of_getElem? (i := 1728) (by decide +kernel)) rfl
theorem mw_methodLink_RX10_412_yX10_aheadOf : (.methodLink RX10 412 yX10_aheadOf : Cond) ∈ BIG := big_tab (List.mem_of_getElem? (i := 1753) (by decide +kernel)) rfl
theorem mw_methodLink_RX10_415_yX10_behindOf : (.methodLink RX10 415 yX10_behindOf : Cond) ∈ BIG := big_tab (List.mem_of_getElem? (i := 1757) (by decide +kernel)) rfl
theorem mw_methodLink_RX10_418_yX10_after : (.methodLink RX10 418 yX10_after : Cond) ∈ BIG := big_tab (List.mem_of_getElem? (i := 1761) (by decide +kernel)) rfl
theorem mw_methodLink_RX10_421_yX10_beat : (.methodLink RX10 421 yX10_beat : Cond) ∈ BIG := big_tab (List.mem_of_getElem? (i := 1749) (by decide +kernel)) rfl
theorem mw_methodLink_RX10_424_yX10_isMan : (.methodLink RX10 424 yX10_isMan : Cond) ∈ BIG := big_tab (List.mem_of_getElem? (i := 1705) (by decide +kernel)) rfl
theorem mw_methodLink_RX10_427_yX10_isRule : (.methodLink RX10 427 yX10_isRule : Cond) ∈ BIG := big_tab (List.mem_of_getElem? (i := 1720) (by decide +kernel)) rfl
theorem mw_methodLink_RX10_430_yX10_isMove : (.methodLink RX10 430 yX10_isMove : Cond) ∈ BIG := big_tab (List.mem_of_getElem? (i := 1724) (by decide +kernel)) rfl
theorem mw_methodLink_RX10_434_yX10_keepAct : (.methodLink RX10 434 yX10_keepAct : Cond) ∈ BIG := big_tab (List.mem_of_getElem? (i := 1737) (by decide +kernel)) rfl
theorem mw_methodLink_RX10_437_yX10_layNow : (.methodLink RX10 437 yX10_layNow : Cond) ∈ BIG := big_tab (List.mem_of_getElem? (i := 1741) (by decide +kernel)) rfl
theorem mw_methodLink_RX10_440_yX10_beatTimes : (.methodLink RX10 440 yX10_beatTimes : Cond) ∈ BIG := big_tab (List.mem_of_getElem? (i := 1745) (by decide +kernel)) rfl
theorem mw_methodLink_RX10_443_yX10_exchange : (.methodLink RX10 443 yX10_exchange : Cond) ∈ BIG := big_tab (List.mem_of_getElem? (i := 1781) (by decide +kernel)) rfl
theorem mw_methodLink_RX10_446_yX10_rowNumber : (.methodLink RX10 446 yX10_rowNumber : Cond) ∈ BIG := big_tab (List.mem_of_getElem? (i := 1801) (by decide +kernel)) rfl
theorem mw_methodLink_RX10_456_yX10_layRound : (.methodLink RX10 456 yX10_layRound : Cond) ∈ BIG := big_tab (List.mem_of_getElem? (i := 1797) (by decide +kernel)) rfl
theorem mw_methodLink_RX10_461_yX10_mayDo : (.methodLink RX10 461 yX10_mayDo : Cond) ∈ BIG := big_tab (List.mem_of_getElem? (i := 1813) (by decide +kernel)) rfl
theorem mw_methodLink_RX10_469_yX10_atMost : (.methodLink RX10 469 yX10_atMost : Cond) ∈ BIG := big_tab (List.mem_of_getElem? (i := 1821) (by decide +kernel)) rfl
theorem mw_methodLink_RX10_465_yX10_countFrom : (.methodLink RX10 465 yX10_countFrom : Cond) ∈ BIG := big_tab (List.mem_of_getElem? (i := 1817) (by decide +kernel)) rfl
theorem mw_methodLink_RX10_473_yX10_countAhead : (.methodLink RX10 473 yX10_countAhead : Cond) ∈ BIG := big_tab (List.mem_of_getElem? (i := 1809) (by decide +kernel)) rfl
theorem mw_methodLink_RX10_480_yX10_allPairs : (.methodLink RX10 480 yX10_allPairs : Cond) ∈ BIG := big_tab (List.mem_of_getElem? (i := 1829) (by decide +kernel)) rfl
theorem mw_methodLink_RX10_483_yX10_stepSet : (.methodLink RX10 483 yX10_stepSet : Cond) ∈ BIG := big_tab (List.mem_of_getElem? (i := 1833) (by decide +kernel)) rfl
theorem mw_methodLink_RX10_486_yX10_layOrphan : (.methodLink RX10 486 yX10_layOrphan : Cond) ∈ BIG := big_tab (List.mem_of_getElem? (i := 1837) (by decide +kernel)) rfl
theorem mw_methodLink_RX10_489_yX10_leads : (.methodLink RX10 489 yX10_leads : Cond) ∈ BIG := big_tab (List.mem_of_getElem? (i := 1853) (by decide +kernel)) rfl
theorem mw_methodLink_RX10_492_yX10_isPair : (.methodLink RX10 492 yX10_isPair : Cond) ∈ BIG := big_tab (List.mem_of_getElem? (i := 1845) (by decide +kernel)) rfl
theorem mw_methodLink_RX10_495_yX10_hasNext : (.methodLink RX10 495 yX10_hasNext : Cond) ∈ BIG := big_tab (List.mem_of_getElem? (i := 1849) (by decide +kernel)) rfl
theorem mw_methodLink_RX10_499_yX10_isSame : (.methodLink RX10 499 yX10_isSame : Cond) ∈ BIG := big_tab (List.mem_of_getElem? (i := 1861) (by decide +kernel)) rfl
theorem mw_methodLink_RX10_502_yX10_otherMove : (.methodLink RX10 502 yX10_otherMove : Cond) ∈ BIG := big_tab (List.mem_of_getElem? (i := 1873) (by decide +kernel)) rfl
theorem mw_methodLink_RX10_505_yX10_isSoBy : (.methodLink RX10 505 yX10_isSoBy : Cond) ∈ BIG := big_tab (List.mem_of_getElem? (i := 1877) (by decide +kernel)) rfl
theorem mw_methodLink_RX10_509_yX10_layGlint : (.methodLink RX10 509 yX10_layGlint : Cond) ∈ BIG := big_tab (List.mem_of_getElem? (i := 1881) (by decide +kernel)) rfl
theorem mw_methodLink_RX10_512_yX10_nextMoves : (.methodLink RX10 512 yX10_nextMoves : Cond) ∈ BIG := big_tab (List.mem_of_getElem? (i := 1885) (by decide +kernel)) rfl
theorem mw_methodLink_RX10_515_yX10_nextMen : (.methodLink RX10 515 yX10_nextMen : Cond) ∈ BIG := big_tab (List.mem_of_getElem? (i := 1889) (by decide +kernel)) rfl
theorem mw_methodLink_RX10_518_yX10_layCracks : (.methodLink RX10 518 yX10_layCracks : Cond) ∈ BIG := big_tab (List.mem_of_getElem? (i := 1897) (by decide +kernel)) rfl
theorem mw_methodLink_RX10_521_yX10_orphanAt : (.methodLink RX10 521 yX10_orphanAt : Cond) ∈ BIG := big_tab (List.mem_of_getElem? (i := 1905) (by decide +kernel)) rfl
theorem mw_methodLink_RX10_527_yX10_bitsOf : (.methodLink RX10 527 yX10_bitsOf : Cond) ∈ BIG := big_tab (List.mem_of_getElem? (i := 1925) (by decide +kernel)) rfl
theorem mw_methodLink_RX10_530_yX10_layCase : (.methodLink RX10 530 yX10_layCase : Cond) ∈ BIG := big_tab (List.mem_of_getElem? (i := 1932) (by decide +kernel)) rfl
theorem mw_methodLink_RX10_533_yX10_areSo : (.methodLink RX10 533 yX10_areSo : Cond) ∈ BIG := big_tab (List.mem_of_getElem? (i := 1936) (by decide +kernel)) rfl
theorem mw_methodLink_RX10_536_yX10_fits : (.methodLink RX10 536 yX10_fits : Cond) ∈ BIG := big_tab (List.mem_of_getElem? (i := 1944) (by decide +kernel)) rfl
theorem mw_methodLink_RX10_539_yX10_isCase : (.methodLink RX10 539 yX10_isCase : Cond) ∈ BIG := big_tab (List.mem_of_getElem? (i := 1949) (by decide +kernel)) rfl
theorem mw_methodLink_RX10_542_yX10_canCrack : (.methodLink RX10 542 yX10_canCrack : Cond) ∈ BIG := big_tab (List.mem_of_getElem? (i := 1953) (by decide +kernel)) rfl
theorem mw_methodLink_RX10_545_yX10_canSee : (.methodLink RX10 545 yX10_canSee : Cond) ∈ BIG := big_tab (List.mem_of_getElem? (i := 1957) (by decide +kernel)) rfl
theorem mw_methodLink_RL_9_yX9_init : (.methodLink RL 9 yX9_init : Cond) ∈ BIG := big_tab (List.mem_of_getElem? (i := 24) (by decide +kernel)) rfl
theorem mw_methodLink_RL_12_yX10_init : (.methodLink RL 12 yX10_init : Cond) ∈ BIG := big_tab (List.mem_of_getElem? (i := 1293) (by decide +kernel)) rfl
theorem mw_methodLink_RL_13_yX9_feed : (.methodLink RL 13 yX9_feed : Cond) ∈ BIG := big_tab (List.mem_of_getElem? (i := 427) (by decide +kernel)) rfl
theorem mw_methodLink_RL_17_yX10_feed : (.methodLink RL 17 yX10_feed : Cond) ∈ BIG := big_tab (List.mem_of_getElem? (i := 1973) (by decide +kernel)) rfl
theorem mw_methodLink_RL_18_yX9_end : (.methodLink RL 18 yX9_end : Cond) ∈ BIG := big_tab (List.mem_of_getElem? (i := 435) (by decide +kernel)) rfl
theorem mw_methodLink_RL_22_yX10_end : (.methodLink RL 22 yX10_end : Cond) ∈ BIG := big_tab (List.mem_of_getElem? (i := 1977) (by decide +kernel)) rfl
theorem mw_methodLink_RL_23_yX9_drill : (.methodLink RL 23 yX9_drill : Cond) ∈ BIG := big_tab (List.mem_of_getElem? (i := 439) (by decide +kernel)) rfl
theorem mw_methodLink_RL_27_yX10_drill : (.methodLink RL 27 yX10_drill : Cond) ∈ BIG := big_tab (List.mem_of_getElem? (i := 1556) (by decide +kernel)) rfl
theorem mw_methodLink_RL_28_yX9_fault : (.methodLink RL 28 yX9_fault : Cond) ∈ BIG := big_tab (List.mem_of_getElem? (i := 747) (by decide +kernel)) rfl
theorem mw_methodLink_RL_31_yX10_fault : (.methodLink RL 31 yX10_fault : Cond) ∈ BIG := big_tab (List.mem_of_getElem? (i := 1697) (by decide +kernel)) rfl
theorem mw_methodLink_RL_32_yX9_does : (.methodLink RL 32 yX9_does : Cond) ∈ BIG := big_tab (List.mem_of_getElem? (i := 751) (by decide +kernel)) rfl
theorem mw_methodLink_RL_35_yX10_does : (.methodLink RL 35 yX10_does : Cond) ∈ BIG := big_tab (List.mem_of_getElem? (i := 1701) (by decide +kernel)) rfl
theorem mw_methodLink_RL_36_yX9_made : (.methodLink RL 36 yX9_made : Cond) ∈ BIG := big_tab (List.mem_of_getElem? (i := 766) (by decide +kernel)) rfl
theorem mw_methodLink_RL_40_yX10_made : (.methodLink RL 40 yX10_made : Cond) ∈ BIG := big_tab (List.mem_of_getElem? (i := 1716) (by decide +kernel)) rfl
theorem mw_methodLink_RL_41_yX9_run : (.methodLink RL 41 yX9_run : Cond) ∈ BIG := big_tab (List.mem_of_getElem? (i := 780) (by decide +kernel)) rfl
theorem mw_methodLink_RL_44_yX10_run : (.methodLink RL 44 yX10_run : Cond) ∈ BIG := big_tab (List.mem_of_getElem? (i := 1732) (by decide +kernel)) rfl
theorem mw_methodLink_RL_45_yX9_order : (.methodLink RL 45 yX9_order : Cond) ∈ BIG := big_tab (List.mem_of_getElem? (i := 813) (by decide +kernel)) rfl
theorem mw_methodLink_RL_49_yX10_order : (.methodLink RL 49 yX10_order : Cond) ∈ BIG := big_tab (List.mem_of_getElem? (i := 1773) (by decide +kernel)) rfl
theorem mw_methodLink_RL_50_yX9_undo : (.methodLink RL 50 yX9_undo : Cond) ∈ BIG := big_tab (List.mem_of_getElem? (i := 818) (by decide +kernel)) rfl
theorem mw_methodLink_RL_54_yX10_undo : (.methodLink RL 54 yX10_undo : Cond) ∈ BIG := big_tab (List.mem_of_getElem? (i := 1777) (by decide +kernel)) rfl
theorem mw_methodLink_RL_55_yX9_redo : (.methodLink RL 55 yX9_redo : Cond) ∈ BIG := big_tab (List.mem_of_getElem? (i := 826) (by decide +kernel)) rfl
theorem mw_methodLink_RL_58_yX10_redo : (.methodLink RL 58 yX10_redo : Cond) ∈ BIG := big_tab (List.mem_of_getElem? (i := 1785) (by decide +kernel)) rfl
theorem mw_methodLink_RL_59_yX9_worth : (.methodLink RL 59 yX9_worth : Cond) ∈ BIG := big_tab (List.mem_of_getElem? (i := 834) (by decide +kernel)) rfl
theorem mw_methodLink_RL_62_yX10_worth : (.methodLink RL 62 yX10_worth : Cond) ∈ BIG := big_tab (List.mem_of_getElem? (i := 1789) (by decide +kernel)) rfl
theorem mw_methodLink_RL_63_yX9_round : (.methodLink RL 63 yX9_round : Cond) ∈ BIG := big_tab (List.mem_of_getElem? (i := 842) (by decide +kernel)) rfl
theorem mw_methodLink_RL_66_yX10_round : (.methodLink RL 66 yX10_round : Cond) ∈ BIG := big_tab (List.mem_of_getElem? (i := 1793) (by decide +kernel)) rfl
theorem mw_methodLink_RL_67_yX9_before : (.methodLink RL 67 yX9_before : Cond) ∈ BIG := big_tab (List.mem_of_getElem? (i := 867) (by decide +kernel)) rfl
theorem mw_methodLink_RL_71_yX10_before : (.methodLink RL 71 yX10_before : Cond) ∈ BIG := big_tab (List.mem_of_getElem? (i := 1805) (by decide +kernel)) rfl
theorem mw_methodLink_RL_72_yX9_orphan : (.methodLink RL 72 yX9_orphan : Cond) ∈ BIG := big_tab (List.mem_of_getElem? (i := 952) (by decide +kernel)) rfl
theorem mw_methodLink_RL_75_yX10_orphan : (.methodLink RL 75 yX10_orphan : Cond) ∈ BIG := big_tab (List.mem_of_getElem? (i := 1825) (by decide +kernel)) rfl
theorem mw_methodLink_RL_76_yX9_one : (.methodLink RL 76 yX9_one : Cond) ∈ BIG := big_tab (List.mem_of_getElem? (i := 1013) (by decide +kernel)) rfl
theorem mw_methodLink_RL_79_yX10_one : (.methodLink RL 79 yX10_one : Cond) ∈ BIG := big_tab (List.mem_of_getElem? (i := 1841) (by decide +kernel)) rfl
theorem mw_methodLink_RL_80_yX9_keeps : (.methodLink RL 80 yX9_keeps : Cond) ∈ BIG := big_tab (List.mem_of_getElem? (i := 1037) (by decide +kernel)) rfl
theorem mw_methodLink_RL_83_yX10_keeps : (.methodLink RL 83 yX10_keeps : Cond) ∈ BIG := big_tab (List.mem_of_getElem? (i := 1857) (by decide +kernel)) rfl
theorem mw_methodLink_RL_84_yX9_spread : (.methodLink RL 84 yX9_spread : Cond) ∈ BIG := big_tab (List.mem_of_getElem? (i := 1054) (by decide +kernel)) rfl
theorem mw_methodLink_RL_88_yX10_spread : (.methodLink RL 88 yX10_spread : Cond) ∈ BIG := big_tab (List.mem_of_getElem? (i := 1865) (by decide +kernel)) rfl
theorem mw_methodLink_RL_89_yX9_glint : (.methodLink RL 89 yX9_glint : Cond) ∈ BIG := big_tab (List.mem_of_getElem? (i := 1068) (by decide +kernel)) rfl
theorem mw_methodLink_RL_92_yX10_glint : (.methodLink RL 92 yX10_glint : Cond) ∈ BIG := big_tab (List.mem_of_getElem? (i := 1869) (by decide +kernel)) rfl
theorem mw_methodLink_RL_93_yX9_cracks : (.methodLink RL 93 yX9_cracks : Cond) ∈ BIG := big_tab (List.mem_of_getElem? (i := 1116) (by decide +kernel)) rfl
theorem mw_methodLink_RL_96_yX10_cracks : (.methodLink RL 96 yX10_cracks : Cond) ∈ BIG := big_tab (List.mem_of_getElem? (i := 1893) (by decide +kernel)) rfl
theorem mw_methodLink_RL_97_yX9_lies : (.methodLink RL 97 yX9_lies : Cond) ∈ BIG := big_tab (List.mem_of_getElem? (i := 1134) (by decide +kernel)) rfl
theorem mw_methodLink_RL_100_yX10_lies : (.methodLink RL 100 yX10_lies : Cond) ∈ BIG := big_tab (List.mem_of_getElem? (i := 1901) (by decide +kernel)) rfl
theorem mw_methodLink_RL_101_yX9_sight : (.methodLink RL 101 yX9_sight : Cond) ∈ BIG := big_tab (List.mem_of_getElem? (i := 1142) (by decide +kernel)) rfl
theorem mw_methodLink_RL_104_yX10_sight : (.methodLink RL 104 yX10_sight : Cond) ∈ BIG := big_tab (List.mem_of_getElem? (i := 1909) (by decide +kernel)) rfl
theorem mw_methodLink_RL_105_yX9_untell : (.methodLink RL 105 yX9_untell : Cond) ∈ BIG := big_tab (List.mem_of_getElem? (i := 1150) (by decide +kernel)) rfl
theorem mw_methodLink_RL_109_yX10_untell : (.methodLink RL 109 yX10_untell : Cond) ∈ BIG := big_tab (List.mem_of_getElem? (i := 1913) (by decide +kernel)) rfl
theorem mw_methodLink_RL_110_yX9_later : (.methodLink RL 110 yX9_later : Cond) ∈ BIG := big_tab (List.mem_of_getElem? (i := 1158) (by decide +kernel)) rfl
theorem mw_methodLink_RL_113_yX10_later : (.methodLink RL 113 yX10_later : Cond) ∈ BIG := big_tab (List.mem_of_getElem? (i := 1917) (by decide +kernel)) rfl
theorem mw_methodLink_RL_114_yX9_unsure : (.methodLink RL 114 yX9_unsure : Cond) ∈ BIG := big_tab (List.mem_of_getElem? (i := 1162) (by decide +kernel)) rfl
theorem mw_methodLink_RL_117_yX10_unsure : (.methodLink RL 117 yX10_unsure : Cond) ∈ BIG := big_tab (List.mem_of_getElem? (i := 1921) (by decide +kernel)) rfl
theorem mw_methodLink_RL_118_yX9_fits : (.methodLink RL 118 yX9_fits : Cond) ∈ BIG := big_tab (List.mem_of_getElem? (i := 1176) (by decide +kernel)) rfl
theorem mw_methodLink_RL_121_yX10_fits : (.methodLink RL 121 yX10_fits : Cond) ∈ BIG := big_tab (List.mem_of_getElem? (i := 1928) (by decide +kernel)) rfl
theorem mw_methodLink_RL_122_yX9_sure : (.methodLink RL 122 yX9_sure : Cond) ∈ BIG := big_tab (List.mem_of_getElem? (i := 1233) (by decide +kernel)) rfl
theorem mw_methodLink_RL_125_yX10_sure : (.methodLink RL 125 yX10_sure : Cond) ∈ BIG := big_tab (List.mem_of_getElem? (i := 1940) (by decide +kernel)) rfl
theorem mw_methodLink_RL_126_yX9_wrong : (.methodLink RL 126 yX9_wrong : Cond) ∈ BIG := big_tab (List.mem_of_getElem? (i := 1242) (by decide +kernel)) rfl
theorem mw_methodLink_RL_129_yX10_wrong : (.methodLink RL 129 yX10_wrong : Cond) ∈ BIG := big_tab (List.mem_of_getElem? (i := 1945) (by decide +kernel)) rfl
theorem mw_methodLink_RL_130_yX9_image : (.methodLink RL 130 yX9_image : Cond) ∈ BIG := big_tab (List.mem_of_getElem? (i := 1259) (by decide +kernel)) rfl
theorem mw_methodLink_RL_133_yX10_image : (.methodLink RL 133 yX10_image : Cond) ∈ BIG := big_tab (List.mem_of_getElem? (i := 1961) (by decide +kernel)) rfl
theorem mw_methodLink_RL_134_yX9_back : (.methodLink RL 134 yX9_back : Cond) ∈ BIG := big_tab (List.mem_of_getElem? (i := 1263) (by decide +kernel)) rfl
theorem mw_methodLink_RL_137_yX10_back : (.methodLink RL 137 yX10_back : Cond) ∈ BIG := big_tab (List.mem_of_getElem? (i := 1965) (by decide +kernel)) rfl
theorem mw_methodLink_RL_138_yX9_about : (.methodLink RL 138 yX9_about : Cond) ∈ BIG := big_tab (List.mem_of_getElem? (i := 1267) (by decide +kernel)) rfl
theorem mw_methodLink_RL_141_yX10_about : (.methodLink RL 141 yX10_about : Cond) ∈ BIG := big_tab (List.mem_of_getElem? (i := 1969) (by decide +kernel)) rfl
theorem mw_classLink_RX9_17_RX7 : (.classLink RX9 17 RX7 : Cond) ∈ BIG := big_tab (List.mem_of_getElem? (i := 30) (by decide +kernel)) rfl
theorem mw_classLink_RX9_24_RX2 : (.classLink RX9 24 RX2 : Cond) ∈ BIG := big_tab (List.mem_of_getElem? (i := 87) (by decide +kernel)) rfl
theorem mw_classLink_RX9_40_RX3 : (.classLink RX9 40 RX3 : Cond) ∈ BIG := big_tab (List.mem_of_getElem? (i := 170) (by decide +kernel)) rfl
theorem mw_classLink_RX9_54_RX6 : (.classLink RX9 54 RX6 : Cond) ∈ BIG := big_tab (List.mem_of_getElem? (i := 189) (by decide +kernel)) rfl
theorem mw_classLink_RX9_64_RX1 : (.classLink RX9 64 RX1 : Cond) ∈ BIG := big_tab (List.mem_of_getElem? (i := 202) (by decide +kernel)) rfl
theorem mw_classLink_RX9_71_RX5 : (.classLink RX9 71 RX5 : Cond) ∈ BIG := big_tab (List.mem_of_getElem? (i := 224) (by decide +kernel)) rfl
theorem mw_classLink_RX9_78_RX4 : (.classLink RX9 78 RX4 : Cond) ∈ BIG := big_tab (List.mem_of_getElem? (i := 246) (by decide +kernel)) rfl
theorem mw_classLink_RX9_85_RX0 : (.classLink RX9 85 RX0 : Cond) ∈ BIG := big_tab (List.mem_of_getElem? (i := 283) (by decide +kernel)) rfl
theorem mw_classLink_RX9_92_RX8 : (.classLink RX9 92 RX8 : Cond) ∈ BIG := big_tab (List.mem_of_getElem? (i := 317) (by decide +kernel)) rfl
theorem mw_classLink_RL_7_RX9 : (.classLink RL 7 RX9 : Cond) ∈ BIG := big_tab (List.mem_of_getElem? (i := 22) (by decide +kernel)) rfl
theorem mw_classLink_RL_10_RX10 : (.classLink RL 10 RX10 : Cond) ∈ BIG := big_tab (List.mem_of_getElem? (i := 1291) (by decide +kernel)) rfl
theorem mw_constantLong_RX9_322_3 : (.constantLong RX9 322 (3) : Cond) ∈ BIG := big_tab (List.mem_of_getElem? (i := 673) (by decide +kernel)) rfl
theorem mw_constantLong_RX9_324_1 : (.constantLong RX9 324 (-1) : Cond) ∈ BIG := big_tab (List.mem_of_getElem? (i := 674) (by decide +kernel)) rfl
theorem mw_constantLong_RX0_99_1 : (.constantLong RX0 99 (-1) : Cond) ∈ BIG := big_tab (List.mem_of_getElem? (i := 1132) (by decide +kernel)) rfl
theorem mw_constantLong_RX0_97_3 : (.constantLong RX0 97 (3) : Cond) ∈ BIG := big_tab (List.mem_of_getElem? (i := 1133) (by decide +kernel)) rfl
theorem mw_constantLong_RX5_91_4 : (.constantLong RX5 91 (4) : Cond) ∈ BIG := big_tab (List.mem_of_getElem? (i := 914) (by decide +kernel)) rfl
theorem mw_constantLong_RX5_39_1 : (.constantLong RX5 39 (-1) : Cond) ∈ BIG := big_tab (List.mem_of_getElem? (i := 875) (by decide +kernel)) rfl
theorem mw_constantLong_RX7_97_32 : (.constantLong RX7 97 (32) : Cond) ∈ BIG := big_tab (List.mem_of_getElem? (i := 471) (by decide +kernel)) rfl
theorem mw_constantLong_RX9_222_1000000000000000 : (.constantLong RX9 222 (1000000000000000) : Cond) ∈ BIG := big_tab (List.mem_of_getElem? (i := 948) (by decide +kernel)) rfl
theorem mw_constantLong_RX9_326_6148914691236517205 : (.constantLong RX9 326 (6148914691236517205) : Cond) ∈ BIG := big_tab (List.mem_of_getElem? (i := 1061) (by decide +kernel)) rfl
theorem mw_constantLong_RX10_189_470021465459 : (.constantLong RX10 189 (470021465459) : Cond) ∈ BIG := big_tab (List.mem_of_getElem? (i := 1574) (by decide +kernel)) rfl
theorem mw_constantLong_RX10_191_7169390 : (.constantLong RX10 191 (7169390) : Cond) ∈ BIG := big_tab (List.mem_of_getElem? (i := 1575) (by decide +kernel)) rfl
theorem mw_constantLong_RX10_193_1919512167 : (.constantLong RX10 193 (1919512167) : Cond) ∈ BIG := big_tab (List.mem_of_getElem? (i := 1576) (by decide +kernel)) rfl
theorem mw_constantLong_RX10_195_1701078885 : (.constantLong RX10 195 (1701078885) : Cond) ∈ BIG := big_tab (List.mem_of_getElem? (i := 1577) (by decide +kernel)) rfl
theorem mw_constantLong_RX10_197_1920298085 : (.constantLong RX10 197 (1920298085) : Cond) ∈ BIG := big_tab (List.mem_of_getElem? (i := 1578) (by decide +kernel)) rfl
theorem mw_constantLong_RX10_199_7168366 : (.constantLong RX10 199 (7168366) : Cond) ∈ BIG := big_tab (List.mem_of_getElem? (i := 1579) (by decide +kernel)) rfl
theorem mw_constantLong_RX10_201_1685022067 : (.constantLong RX10 201 (1685022067) : Cond) ∈ BIG := big_tab (List.mem_of_getElem? (i := 1580) (by decide +kernel)) rfl
theorem mw_constantLong_RX10_203_25209 : (.constantLong RX10 203 (25209) : Cond) ∈ BIG := big_tab (List.mem_of_getElem? (i := 1581) (by decide +kernel)) rfl
theorem mw_constantLong_RX10_205_128047779833188 : (.constantLong RX10 205 (128047779833188) : Cond) ∈ BIG := big_tab (List.mem_of_getElem? (i := 1582) (by decide +kernel)) rfl
theorem mw_constantLong_RX10_207_27991785299731812 : (.constantLong RX10 207 (27991785299731812) : Cond) ∈ BIG := big_tab (List.mem_of_getElem? (i := 1583) (by decide +kernel)) rfl
theorem mw_constantLong_RX10_209_131294707347319 : (.constantLong RX10 209 (131294707347319) : Cond) ∈ BIG := big_tab (List.mem_of_getElem? (i := 1584) (by decide +kernel)) rfl
theorem mw_constantLong_RX10_211_512970880104 : (.constantLong RX10 211 (512970880104) : Cond) ∈ BIG := big_tab (List.mem_of_getElem? (i := 1585) (by decide +kernel)) rfl
theorem mw_constantLong_RX10_213_1818584692 : (.constantLong RX10 213 (1818584692) : Cond) ∈ BIG := big_tab (List.mem_of_getElem? (i := 1586) (by decide +kernel)) rfl
theorem mw_constantLong_RX10_215_7305070 : (.constantLong RX10 215 (7305070) : Cond) ∈ BIG := big_tab (List.mem_of_getElem? (i := 1587) (by decide +kernel)) rfl
theorem mw_constantLong_RX10_217_491394656372 : (.constantLong RX10 217 (491394656372) : Cond) ∈ BIG := big_tab (List.mem_of_getElem? (i := 1588) (by decide +kernel)) rfl
theorem mw_constantLong_RX10_219_6385252 : (.constantLong RX10 219 (6385252) : Cond) ∈ BIG := big_tab (List.mem_of_getElem? (i := 1589) (by decide +kernel)) rfl
theorem mw_constantLong_RX10_221_28530 : (.constantLong RX10 221 (28530) : Cond) ∈ BIG := big_tab (List.mem_of_getElem? (i := 1590) (by decide +kernel)) rfl
theorem mw_constantLong_RX10_223_7237492 : (.constantLong RX10 223 (7237492) : Cond) ∈ BIG := big_tab (List.mem_of_getElem? (i := 1591) (by decide +kernel)) rfl
theorem mw_constantLong_RX10_459_1000000000000000 : (.constantLong RX10 459 (1000000000000000) : Cond) ∈ BIG := big_tab (List.mem_of_getElem? (i := 1824) (by decide +kernel)) rfl
theorem mw_constant_RX4_67_65535 : (.constant RX4 67 (65535) : Cond) ∈ BIG := big_tab (List.mem_of_getElem? (i := 998) (by decide +kernel)) rfl
theorem mw_constant_RX4_66_65536 : (.constant RX4 66 (65536) : Cond) ∈ BIG := big_tab (List.mem_of_getElem? (i := 997) (by decide +kernel)) rfl
theorem mw_constant_RX9_176_100000 : (.constant RX9 176 (100000) : Cond) ∈ BIG := big_tab (List.mem_of_getElem? (i := 788) (by decide +kernel)) rfl
theorem mw_constant_RX10_131_65536 : (.constant RX10 131 (65536) : Cond) ∈ BIG := big_tab (List.mem_of_getElem? (i := 1297) (by decide +kernel)) rfl
theorem mw_constant_RX10_433_100000 : (.constant RX10 433 (100000) : Cond) ∈ BIG := big_tab (List.mem_of_getElem? (i := 1736) (by decide +kernel)) rfl
theorem mw_arrayClass_int : (.arrayClass .int : Cond) ∈ BIG := big_tab (List.mem_of_getElem? (i := 85) (by decide +kernel)) rfl
theorem mw_arrayClass_long : (.arrayClass .long : Cond) ∈ BIG := big_tab (List.mem_of_getElem? (i := 86) (by decide +kernel)) rfl
theorem mw_arrayClass_byte : (.arrayClass .byte : Cond) ∈ BIG := big_tab (List.mem_of_getElem? (i := 169) (by decide +kernel)) rfl
theorem mw_arrayClass_boolean : (.arrayClass .boolean : Cond) ∈ BIG := big_tab (List.mem_of_getElem? (i := 1555) (by decide +kernel)) rfl
theorem mw_initialized_RX0 : (.initialized RX0 : Cond) ∈ BIG := big_tab (List.mem_of_getElem? (i := 9) (by decide +kernel)) rfl
theorem mw_instantiable_RX0_9 : (.instantiable RX0 9 : Cond) ∈ BIG := big_tab (List.mem_of_getElem? (i := 284) (by decide +kernel)) rfl
theorem mw_initialized_RX1 : (.initialized RX1 : Cond) ∈ BIG := big_tab (List.mem_of_getElem? (i := 6) (by decide +kernel)) rfl
theorem mw_instantiable_RX1_5 : (.instantiable RX1 5 : Cond) ∈ BIG := big_tab (List.mem_of_getElem? (i := 203) (by decide +kernel)) rfl
theorem mw_initialized_RX2 : (.initialized RX2 : Cond) ∈ BIG := big_tab (List.mem_of_getElem? (i := 3) (by decide +kernel)) rfl
theorem mw_instantiable_RX2_15 : (.instantiable RX2 15 : Cond) ∈ BIG := big_tab (List.mem_of_getElem? (i := 88) (by decide +kernel)) rfl
theorem mw_initialized_RX3 : (.initialized RX3 : Cond) ∈ BIG := big_tab (List.mem_of_getElem? (i := 4) (by decide +kernel)) rfl
theorem mw_instantiable_RX3_4 : (.instantiable RX3 4 : Cond) ∈ BIG := big_tab (List.mem_of_getElem? (i := 171) (by decide +kernel)) rfl
theorem mw_initialized_RX4 : (.initialized RX4 : Cond) ∈ BIG := big_tab (List.mem_of_getElem? (i := 8) (by decide +kernel)) rfl
theorem mw_instantiable_RX4_10 : (.instantiable RX4 10 : Cond) ∈ BIG := big_tab (List.mem_of_getElem? (i := 247) (by decide +kernel)) rfl
theorem mw_initialized_RX5 : (.initialized RX5 : Cond) ∈ BIG := big_tab (List.mem_of_getElem? (i := 7) (by decide +kernel)) rfl
theorem mw_instantiable_RX5_5 : (.instantiable RX5 5 : Cond) ∈ BIG := big_tab (List.mem_of_getElem? (i := 225) (by decide +kernel)) rfl
theorem mw_initialized_RX6 : (.initialized RX6 : Cond) ∈ BIG := big_tab (List.mem_of_getElem? (i := 5) (by decide +kernel)) rfl
theorem mw_instantiable_RX6_2 : (.instantiable RX6 2 : Cond) ∈ BIG := big_tab (List.mem_of_getElem? (i := 190) (by decide +kernel)) rfl
theorem mw_initialized_RX7 : (.initialized RX7 : Cond) ∈ BIG := big_tab (List.mem_of_getElem? (i := 2) (by decide +kernel)) rfl
theorem mw_instantiable_RX7_16 : (.instantiable RX7 16 : Cond) ∈ BIG := big_tab (List.mem_of_getElem? (i := 31) (by decide +kernel)) rfl
theorem mw_initialized_RX8 : (.initialized RX8 : Cond) ∈ BIG := big_tab (List.mem_of_getElem? (i := 10) (by decide +kernel)) rfl
theorem mw_instantiable_RX8_17 : (.instantiable RX8 17 : Cond) ∈ BIG := big_tab (List.mem_of_getElem? (i := 318) (by decide +kernel)) rfl
theorem mw_initialized_RX9 : (.initialized RX9 : Cond) ∈ BIG := big_tab (List.mem_of_getElem? (i := 1) (by decide +kernel)) rfl
theorem mw_instantiable_RX9_17 : (.instantiable RX9 17 : Cond) ∈ BIG := big_tab (List.mem_of_getElem? (i := 23) (by decide +kernel)) rfl
theorem mw_initialized_RX10 : (.initialized RX10 : Cond) ∈ BIG := big_tab (List.mem_of_getElem? (i := 11) (by decide +kernel)) rfl
theorem mw_instantiable_RX10_80 : (.instantiable RX10 80 : Cond) ∈ BIG := big_tab (List.mem_of_getElem? (i := 1292) (by decide +kernel)) rfl
theorem mw_instanceMethod_objectInit : (.instanceMethod objectInit : Cond) ∈ BIG := big_tab (List.mem_of_getElem? (i := 28) (by decide +kernel)) rfl
theorem mw_code_objectInit_0xb1_1_none : (.code objectInit ⟨#[0xb1]⟩ 1 none : Cond) ∈ BIG := big_tab (List.mem_of_getElem? (i := 29) (by decide +kernel)) rfl
set_option maxRecDepth 20000 in
theorem jX0 : u_ws RX0 TX0 9 = ([298, 300, 302, 304, 306, 308, 310, 312, 314] : List Nat).filterMap (fun i => tables_1[i]?) := by decide +kernel
set_option maxRecDepth 20000 in
theorem iX0 : ∀ w ∈ u_ws RX0 TX0 9, w ∈ BIG := fun w h => big_tab (by rw [jX0] at h; obtain ⟨i, -, hi⟩ := List.mem_filterMap.mp h; exact List.mem_of_getElem? hi) ((by decide +kernel : ∀ w ∈ u_ws RX0 TX0 9, goodWord w = true) w h)
set_option maxRecDepth 20000 in
theorem jX1 : u_ws RX1 TX1 5 = ([213, 215, 217, 219, 221] : List Nat).filterMap (fun i => tables_1[i]?) := by decide +kernel
set_option maxRecDepth 20000 in
theorem iX1 : ∀ w ∈ u_ws RX1 TX1 5, w ∈ BIG := fun w h => big_tab (by rw [jX1] at h; obtain ⟨i, -, hi⟩ := List.mem_filterMap.mp h; exact List.mem_of_getElem? hi) ((by decide +kernel : ∀ w ∈ u_ws RX1 TX1 5, goodWord w = true) w h)
set_option maxRecDepth 20000 in
theorem jX2 : u_ws RX2 TX2 15 = ([138, 140, 142, 144, 146, 148, 150, 152, 154, 156, 158, 160, 162, 164, 166] : List Nat).filterMap (fun i => tables_1[i]?) := by decide +kernel
set_option maxRecDepth 20000 in
theorem iX2 : ∀ w ∈ u_ws RX2 TX2 15, w ∈ BIG := fun w h => big_tab (by rw [jX2] at h; obtain ⟨i, -, hi⟩ := List.mem_filterMap.mp h; exact List.mem_of_getElem? hi) ((by decide +kernel : ∀ w ∈ u_ws RX2 TX2 15, goodWord w = true) w h)
set_option maxRecDepth 20000 in
theorem jX3 : u_ws RX3 TX3 4 = ([180, 182, 184, 186] : List Nat).filterMap (fun i => tables_1[i]?) := by decide +kernel
set_option maxRecDepth 20000 in
theorem iX3 : ∀ w ∈ u_ws RX3 TX3 4, w ∈ BIG := fun w h => big_tab (by rw [jX3] at h; obtain ⟨i, -, hi⟩ := List.mem_filterMap.mp h; exact List.mem_of_getElem? hi) ((by decide +kernel : ∀ w ∈ u_ws RX3 TX3 4, goodWord w = true) w h)
set_option maxRecDepth 20000 in
theorem jX4 : u_ws RX4 TX4 10 = ([262, 264, 266, 268, 270, 272, 274, 276, 278, 280] : List Nat).filterMap (fun i => tables_1[i]?) := by decide +kernel
set_option maxRecDepth 20000 in
theorem iX4 : ∀ w ∈ u_ws RX4 TX4 10, w ∈ BIG := fun w h => big_tab (by rw [jX4] at h; obtain ⟨i, -, hi⟩ := List.mem_filterMap.mp h; exact List.mem_of_getElem? hi) ((by decide +kernel : ∀ w ∈ u_ws RX4 TX4 10, goodWord w = true) w h)
set_option maxRecDepth 20000 in
theorem jX5 : u_ws RX5 TX5 5 = ([235, 237, 239, 241, 243] : List Nat).filterMap (fun i => tables_1[i]?) := by decide +kernel
set_option maxRecDepth 20000 in
theorem iX5 : ∀ w ∈ u_ws RX5 TX5 5, w ∈ BIG := fun w h => big_tab (by rw [jX5] at h; obtain ⟨i, -, hi⟩ := List.mem_filterMap.mp h; exact List.mem_of_getElem? hi) ((by decide +kernel : ∀ w ∈ u_ws RX5 TX5 5, goodWord w = true) w h)
set_option maxRecDepth 20000 in
theorem jX6 : u_ws RX6 TX6 2 = ([197, 199] : List Nat).filterMap (fun i => tables_1[i]?) := by decide +kernel
set_option maxRecDepth 20000 in
theorem iX6 : ∀ w ∈ u_ws RX6 TX6 2, w ∈ BIG := fun w h => big_tab (by rw [jX6] at h; obtain ⟨i, -, hi⟩ := List.mem_filterMap.mp h; exact List.mem_of_getElem? hi) ((by decide +kernel : ∀ w ∈ u_ws RX6 TX6 2, goodWord w = true) w h)
set_option maxRecDepth 20000 in
theorem jX7 : u_ws RX7 TX7 16 = ([52, 54, 56, 58, 60, 62, 64, 66, 68, 70, 72, 74, 76, 78, 80, 82] : List Nat).filterMap (fun i => tables_1[i]?) := by decide +kernel
set_option maxRecDepth 20000 in
theorem iX7 : ∀ w ∈ u_ws RX7 TX7 16, w ∈ BIG := fun w h => big_tab (by rw [jX7] at h; obtain ⟨i, -, hi⟩ := List.mem_filterMap.mp h; exact List.mem_of_getElem? hi) ((by decide +kernel : ∀ w ∈ u_ws RX7 TX7 16, goodWord w = true) w h)
set_option maxRecDepth 20000 in
theorem jX8 : u_ws RX8 TX8 17 = ([340, 342, 344, 346, 348, 350, 352, 354, 356, 358, 360, 362, 364, 366, 368, 370, 372] : List Nat).filterMap (fun i => tables_1[i]?) := by decide +kernel
set_option maxRecDepth 20000 in
theorem iX8 : ∀ w ∈ u_ws RX8 TX8 17, w ∈ BIG := fun w h => big_tab (by rw [jX8] at h; obtain ⟨i, -, hi⟩ := List.mem_filterMap.mp h; exact List.mem_of_getElem? hi) ((by decide +kernel : ∀ w ∈ u_ws RX8 TX8 17, goodWord w = true) w h)
set_option maxRecDepth 20000 in
theorem jX9 : u_ws RX9 TX9 17 = ([392, 394, 396, 398, 400, 402, 404, 406, 408, 410, 412, 414, 416, 418, 420, 422, 424] : List Nat).filterMap (fun i => tables_1[i]?) := by decide +kernel
set_option maxRecDepth 20000 in
theorem iX9 : ∀ w ∈ u_ws RX9 TX9 17, w ∈ BIG := fun w h => big_tab (by rw [jX9] at h; obtain ⟨i, -, hi⟩ := List.mem_filterMap.mp h; exact List.mem_of_getElem? hi) ((by decide +kernel : ∀ w ∈ u_ws RX9 TX9 17, goodWord w = true) w h)
set_option maxRecDepth 20000 in
theorem jX10 : u_ws RX10 TX10 80 = ([1394, 1396, 1398, 1400, 1402, 1404, 1406, 1408, 1410, 1412, 1414, 1416, 1418, 1420, 1422, 1424, 1426, 1428, 1430, 1432, 1434, 1436, 1438, 1440, 1442, 1444, 1446, 1448, 1450, 1452, 1454, 1456, 1458, 1460, 1462, 1464, 1466, 1468, 1470, 1472, 1474, 1476, 1478, 1480, 1482, 1484, 1486, 1488, 1490, 1492, 1494, 1496, 1498, 1500, 1502, 1504, 1506, 1508, 1510, 1512, 1514, 1516, 1518, 1520, 1522, 1524, 1526, 1528, 1530, 1532, 1534, 1536, 1538, 1540, 1542, 1544, 1546, 1548, 1550, 1552] : List Nat).filterMap (fun i => tables_1[i]?) := by decide +kernel
set_option maxRecDepth 20000 in
theorem iX10 : ∀ w ∈ u_ws RX10 TX10 80, w ∈ BIG := fun w h => big_tab (by rw [jX10] at h; obtain ⟨i, -, hi⟩ := List.mem_filterMap.mp h; exact List.mem_of_getElem? hi) ((by decide +kernel : ∀ w ∈ u_ws RX10 TX10 80, goodWord w = true) w h)
theorem dflt_X0 : ∀ j, j < 9 → defaultValue (tyX0 j) = vp_V [.null, .long 0, .int 0, .int 0, .int 0, .null, .int 0, .null, .null] j := by decide +kernel
theorem dflt_X1 : ∀ j, j < 5 → defaultValue (tyX1 j) = vp_V [.null, .int 0, .long 0, .int 0, .int 0] j := by decide +kernel
theorem dflt_X2 : ∀ j, j < 15 → defaultValue (tyX2 j) = vp_V [.int 0, .int 0, .int 0, .int 0, .int 0, .int 0, .int 0, .int 0, .long 0, .null, .null, .null, .null, .null, .null] j := by decide +kernel
theorem dflt_X3 : ∀ j, j < 4 → defaultValue (tyX3 j) = vp_V [.null, .null, .int 0, .int 0] j := by decide +kernel
theorem dflt_X4 : ∀ j, j < 10 → defaultValue (tyX4 j) = vp_V [.null, .int 0, .int 0, .int 0, .null, .null, .int 0, .null, .null, .null] j := by decide +kernel
theorem dflt_X5 : ∀ j, j < 5 → defaultValue (tyX5 j) = vp_V [.null, .null, .long 0, .long 0, .long 0] j := by decide +kernel
theorem dflt_X6 : ∀ j, j < 2 → defaultValue (tyX6 j) = vp_V [.null, .int 0] j := by decide +kernel
theorem dflt_X7 : ∀ j, j < 16 → defaultValue (tyX7 j) = vp_V [.null, .int 0, .int 0, .int 0, .int 0, .int 0, .long 0, .null, .int 0, .int 0, .null, .int 0, .null, .int 0, .int 0, .int 0] j := by decide +kernel
theorem dflt_X8 : ∀ j, j < 17 → defaultValue (tyX8 j) = vp_V [.null, .null, .null, .null, .null, .int 0, .int 0, .null, .null, .int 0, .int 0, .null, .null, .int 0, .int 0, .int 0, .null] j := by decide +kernel
theorem dflt_X9 : ∀ j, j < 17 → defaultValue (tyX9 j) = vp_V [.null, .int 0, .null, .null, .null, .int 0, .int 0, .null, .null, .null, .null, .int 0, .null, .null, .null, .null, .null] j := by decide +kernel
theorem dflt_X10 : ∀ j, j < 80 → defaultValue (tyX10 j) = vp_V [.null, .null, .int 0, .int 0, .int 0, .int 0, .int 0, .int 0, .int 0, .int 0, .long 0, .null, .null, .null, .null, .null, .null, .null, .null, .null, .null, .null, .null, .null, .null, .null, .null, .null, .null, .null, .null, .null, .null, .null, .null, .null, .null, .int 0, .int 0, .int 0, .int 0, .int 0, .int 0, .null, .null, .null, .int 0, .int 0, .int 0, .int 0, .null, .int 0, .int 0, .null, .int 0, .int 0, .null, .null, .null, .null, .int 0, .null, .null, .null, .int 0, .null, .null, .null, .null, .null, .null, .null, .null, .null, .null, .int 0, .int 0, .int 0, .null, .null] j := by decide +kernel
theorem cI_X0_init : CIw yX0_init cX0_init 1 0 := ⟨big_tab (List.mem_of_getElem? (i := 286) (by decide +kernel)) rfl, mw_initialized_RX0, big_tab (List.mem_of_getElem? (i := 287) (by decide +kernel)) rfl, rfl, ⟨by decide +kernel, by decide +kernel, by decide +kernel⟩⟩
theorem cV_X0_aim : CVw yX0_aim cX0_aim 8 none 5 := ⟨big_tab (List.mem_of_getElem? (i := 1073) (by decide +kernel)) rfl, big_tab (List.mem_of_getElem? (i := 1074) (by decide +kernel)) rfl, mw_initialized_RX0, big_tab (List.mem_of_getElem? (i := 1075) (by decide +kernel)) rfl, ⟨by decide +kernel, by decide +kernel, by decide +kernel⟩⟩
theorem cV_X0_isSoAnyway : CVw yX0_isSoAnyway cX0_isSoAnyway 1 (some .boolean) 0 := ⟨big_tab (List.mem_of_getElem? (i := 1088) (by decide +kernel)) rfl, big_sel (q := (yX0_isSoAnyway, 9)) (by decide +kernel), mw_initialized_RX0, big_tab (List.mem_of_getElem? (i := 1089) (by decide +kernel)) rfl, ⟨by decide +kernel, by decide +kernel, by decide +kernel⟩⟩
theorem cV_X0_fewestOrdered : CVw yX0_fewestOrdered cX0_fewestOrdered 3 (some .int) 1 := ⟨big_tab (List.mem_of_getElem? (i := 1083) (by decide +kernel)) rfl, big_tab (List.mem_of_getElem? (i := 1084) (by decide +kernel)) rfl, mw_initialized_RX0, big_tab (List.mem_of_getElem? (i := 1085) (by decide +kernel)) rfl, ⟨by decide +kernel, by decide +kernel, by decide +kernel⟩⟩
theorem cV_X0_layMen : CVw yX0_layMen cX0_layMen 3 none 1 := ⟨big_tab (List.mem_of_getElem? (i := 1113) (by decide +kernel)) rfl, big_sel (q := (yX0_layMen, 9)) (by decide +kernel), mw_initialized_RX0, big_tab (List.mem_of_getElem? (i := 1114) (by decide +kernel)) rfl, ⟨by decide +kernel, by decide +kernel, by decide +kernel⟩⟩
theorem cV_X0_orderMen : CVw yX0_orderMen cX0_orderMen 4 (some .boolean) 2 := ⟨big_tab (List.mem_of_getElem? (i := 1093) (by decide +kernel)) rfl, big_sel (q := (yX0_orderMen, 9)) (by decide +kernel), mw_initialized_RX0, big_tab (List.mem_of_getElem? (i := 1094) (by decide +kernel)) rfl, ⟨by decide +kernel, by decide +kernel, by decide +kernel⟩⟩
theorem cV_X0_orderMoves : CVw yX0_orderMoves cX0_orderMoves 6 (some .boolean) 2 := ⟨big_tab (List.mem_of_getElem? (i := 1097) (by decide +kernel)) rfl, big_sel (q := (yX0_orderMoves, 9)) (by decide +kernel), mw_initialized_RX0, big_tab (List.mem_of_getElem? (i := 1098) (by decide +kernel)) rfl, ⟨by decide +kernel, by decide +kernel, by decide +kernel⟩⟩
theorem cV_X0_comesTrue : CVw yX0_comesTrue cX0_comesTrue 6 (some .boolean) 1 := ⟨big_tab (List.mem_of_getElem? (i := 1101) (by decide +kernel)) rfl, big_sel (q := (yX0_comesTrue, 9)) (by decide +kernel), mw_initialized_RX0, big_tab (List.mem_of_getElem? (i := 1102) (by decide +kernel)) rfl, ⟨by decide +kernel, by decide +kernel, by decide +kernel⟩⟩
theorem cV_X0_fewestCracked : CVw yX0_fewestCracked cX0_fewestCracked 2 (some .int) 1 := ⟨big_tab (List.mem_of_getElem? (i := 1121) (by decide +kernel)) rfl, big_tab (List.mem_of_getElem? (i := 1122) (by decide +kernel)) rfl, mw_initialized_RX0, big_tab (List.mem_of_getElem? (i := 1123) (by decide +kernel)) rfl, ⟨by decide +kernel, by decide +kernel, by decide +kernel⟩⟩
theorem cV_X0_crackMen : CVw yX0_crackMen cX0_crackMen 6 (some .boolean) 3 := ⟨big_tab (List.mem_of_getElem? (i := 1126) (by decide +kernel)) rfl, big_sel (q := (yX0_crackMen, 9)) (by decide +kernel), mw_initialized_RX0, big_tab (List.mem_of_getElem? (i := 1127) (by decide +kernel)) rfl, ⟨by decide +kernel, by decide +kernel, by decide +kernel⟩⟩
theorem cV_X0_comesTrueCracked : CVw yX0_comesTrueCracked cX0_comesTrueCracked 6 (some .boolean) 1 := ⟨big_tab (List.mem_of_getElem? (i := 1130) (by decide +kernel)) rfl, big_sel (q := (yX0_comesTrueCracked, 9)) (by decide +kernel), mw_initialized_RX0, big_tab (List.mem_of_getElem? (i := 1131) (by decide +kernel)) rfl, ⟨by decide +kernel, by decide +kernel, by decide +kernel⟩⟩
theorem cI_X1_init : CIw yX1_init cX1_init 1 0 := ⟨big_tab (List.mem_of_getElem? (i := 205) (by decide +kernel)) rfl, mw_initialized_RX1, big_tab (List.mem_of_getElem? (i := 206) (by decide +kernel)) rfl, rfl, ⟨by decide +kernel, by decide +kernel, by decide +kernel⟩⟩
theorem cV_X1_forget : CVw yX1_forget cX1_forget 1 none 0 := ⟨big_tab (List.mem_of_getElem? (i := 740) (by decide +kernel)) rfl, big_tab (List.mem_of_getElem? (i := 741) (by decide +kernel)) rfl, mw_initialized_RX1, big_tab (List.mem_of_getElem? (i := 742) (by decide +kernel)) rfl, ⟨by decide +kernel, by decide +kernel, by decide +kernel⟩⟩
theorem cV_X1_tail : CVw yX1_tail cX1_tail 1 (some .int) 0 := ⟨big_tab (List.mem_of_getElem? (i := 860) (by decide +kernel)) rfl, big_tab (List.mem_of_getElem? (i := 861) (by decide +kernel)) rfl, mw_initialized_RX1, big_tab (List.mem_of_getElem? (i := 862) (by decide +kernel)) rfl, ⟨by decide +kernel, by decide +kernel, by decide +kernel⟩⟩
theorem cV_X1_loop : CVw yX1_loop cX1_loop 1 (some .int) 0 := ⟨big_tab (List.mem_of_getElem? (i := 864) (by decide +kernel)) rfl, big_tab (List.mem_of_getElem? (i := 865) (by decide +kernel)) rfl, mw_initialized_RX1, big_tab (List.mem_of_getElem? (i := 866) (by decide +kernel)) rfl, ⟨by decide +kernel, by decide +kernel, by decide +kernel⟩⟩
theorem cV_X1_comesRound : CVw yX1_comesRound cX1_comesRound 4 (some .boolean) 2 := ⟨big_tab (List.mem_of_getElem? (i := 847) (by decide +kernel)) rfl, big_tab (List.mem_of_getElem? (i := 848) (by decide +kernel)) rfl, mw_initialized_RX1, big_tab (List.mem_of_getElem? (i := 849) (by decide +kernel)) rfl, ⟨by decide +kernel, by decide +kernel, by decide +kernel⟩⟩
theorem cV_X1_follow : CVw yX1_follow cX1_follow 4 none 2 := ⟨big_tab (List.mem_of_getElem? (i := 852) (by decide +kernel)) rfl, big_sel (q := (yX1_follow, 5)) (by decide +kernel), mw_initialized_RX1, big_tab (List.mem_of_getElem? (i := 853) (by decide +kernel)) rfl, ⟨by decide +kernel, by decide +kernel, by decide +kernel⟩⟩
theorem cV_X1_findLoop : CVw yX1_findLoop cX1_findLoop 6 (some .int) 2 := ⟨big_tab (List.mem_of_getElem? (i := 856) (by decide +kernel)) rfl, big_sel (q := (yX1_findLoop, 5)) (by decide +kernel), mw_initialized_RX1, big_tab (List.mem_of_getElem? (i := 857) (by decide +kernel)) rfl, ⟨by decide +kernel, by decide +kernel, by decide +kernel⟩⟩
theorem cI_X2_init : CIw yX2_init cX2_init 1 0 := ⟨big_tab (List.mem_of_getElem? (i := 90) (by decide +kernel)) rfl, mw_initialized_RX2, big_tab (List.mem_of_getElem? (i := 91) (by decide +kernel)) rfl, rfl, ⟨by decide +kernel, by decide +kernel, by decide +kernel⟩⟩
theorem cV_X2_clear : CVw yX2_clear cX2_clear 2 none 0 := ⟨big_tab (List.mem_of_getElem? (i := 451) (by decide +kernel)) rfl, big_tab (List.mem_of_getElem? (i := 452) (by decide +kernel)) rfl, mw_initialized_RX2, big_tab (List.mem_of_getElem? (i := 453) (by decide +kernel)) rfl, ⟨by decide +kernel, by decide +kernel, by decide +kernel⟩⟩
theorem cV_X2_isMan : CVw yX2_isMan cX2_isMan 2 (some .boolean) 1 := ⟨big_tab (List.mem_of_getElem? (i := 756) (by decide +kernel)) rfl, big_tab (List.mem_of_getElem? (i := 757) (by decide +kernel)) rfl, mw_initialized_RX2, big_tab (List.mem_of_getElem? (i := 758) (by decide +kernel)) rfl, ⟨by decide +kernel, by decide +kernel, by decide +kernel⟩⟩
theorem cV_X2_isMove : CVw yX2_isMove cX2_isMove 2 (some .boolean) 1 := ⟨big_tab (List.mem_of_getElem? (i := 775) (by decide +kernel)) rfl, big_tab (List.mem_of_getElem? (i := 776) (by decide +kernel)) rfl, mw_initialized_RX2, big_tab (List.mem_of_getElem? (i := 777) (by decide +kernel)) rfl, ⟨by decide +kernel, by decide +kernel, by decide +kernel⟩⟩
theorem cV_X2_isRule : CVw yX2_isRule cX2_isRule 2 (some .boolean) 1 := ⟨big_tab (List.mem_of_getElem? (i := 771) (by decide +kernel)) rfl, big_tab (List.mem_of_getElem? (i := 772) (by decide +kernel)) rfl, mw_initialized_RX2, big_tab (List.mem_of_getElem? (i := 773) (by decide +kernel)) rfl, ⟨by decide +kernel, by decide +kernel, by decide +kernel⟩⟩
theorem cV_X2_setMade : CVw yX2_setMade cX2_setMade 4 none 3 := ⟨big_tab (List.mem_of_getElem? (i := 660) (by decide +kernel)) rfl, big_tab (List.mem_of_getElem? (i := 661) (by decide +kernel)) rfl, mw_initialized_RX2, big_tab (List.mem_of_getElem? (i := 662) (by decide +kernel)) rfl, ⟨by decide +kernel, by decide +kernel, by decide +kernel⟩⟩
theorem cV_X2_makes : CVw yX2_makes cX2_makes 3 (some .int) 2 := ⟨big_tab (List.mem_of_getElem? (i := 723) (by decide +kernel)) rfl, big_tab (List.mem_of_getElem? (i := 724) (by decide +kernel)) rfl, mw_initialized_RX2, big_tab (List.mem_of_getElem? (i := 725) (by decide +kernel)) rfl, ⟨by decide +kernel, by decide +kernel, by decide +kernel⟩⟩
theorem cV_X2_settle : CVw yX2_settle cX2_settle 4 none 0 := ⟨big_tab (List.mem_of_getElem? (i := 700) (by decide +kernel)) rfl, big_tab (List.mem_of_getElem? (i := 701) (by decide +kernel)) rfl, mw_initialized_RX2, big_tab (List.mem_of_getElem? (i := 702) (by decide +kernel)) rfl, ⟨by decide +kernel, by decide +kernel, by decide +kernel⟩⟩
theorem cV_X2_told : CVw yX2_told cX2_told 6 (some .int) 4 := ⟨big_tab (List.mem_of_getElem? (i := 705) (by decide +kernel)) rfl, big_sel (q := (yX2_told, 15)) (by decide +kernel), mw_initialized_RX2, big_tab (List.mem_of_getElem? (i := 706) (by decide +kernel)) rfl, ⟨by decide +kernel, by decide +kernel, by decide +kernel⟩⟩
theorem cV_X2_throughWindow : CVw yX2_throughWindow cX2_throughWindow 4 (some .int) 3 := ⟨big_tab (List.mem_of_getElem? (i := 708) (by decide +kernel)) rfl, big_tab (List.mem_of_getElem? (i := 709) (by decide +kernel)) rfl, mw_initialized_RX2, big_tab (List.mem_of_getElem? (i := 710) (by decide +kernel)) rfl, ⟨by decide +kernel, by decide +kernel, by decide +kernel⟩⟩
theorem cV_X2_stays : CVw yX2_stays cX2_stays 2 (some .boolean) 1 := ⟨big_tab (List.mem_of_getElem? (i := 713) (by decide +kernel)) rfl, big_sel (q := (yX2_stays, 15)) (by decide +kernel), mw_initialized_RX2, big_tab (List.mem_of_getElem? (i := 714) (by decide +kernel)) rfl, ⟨by decide +kernel, by decide +kernel, by decide +kernel⟩⟩
theorem cV_X2_isCracked : CVw yX2_isCracked cX2_isCracked 2 (some .boolean) 1 := ⟨big_tab (List.mem_of_getElem? (i := 716) (by decide +kernel)) rfl, big_tab (List.mem_of_getElem? (i := 717) (by decide +kernel)) rfl, mw_initialized_RX2, big_tab (List.mem_of_getElem? (i := 718) (by decide +kernel)) rfl, ⟨by decide +kernel, by decide +kernel, by decide +kernel⟩⟩
theorem cV_X2_widened : CVw yX2_widened cX2_widened 7 (some .long) 1 := ⟨big_tab (List.mem_of_getElem? (i := 799) (by decide +kernel)) rfl, big_sel (q := (yX2_widened, 15)) (by decide +kernel), mw_initialized_RX2, big_tab (List.mem_of_getElem? (i := 800) (by decide +kernel)) rfl, ⟨by decide +kernel, by decide +kernel, by decide +kernel⟩⟩
theorem cV_X2_doesBy : CVw yX2_doesBy cX2_doesBy 3 (some .int) 2 := ⟨big_tab (List.mem_of_getElem? (i := 727) (by decide +kernel)) rfl, big_tab (List.mem_of_getElem? (i := 728) (by decide +kernel)) rfl, mw_initialized_RX2, big_tab (List.mem_of_getElem? (i := 729) (by decide +kernel)) rfl, ⟨by decide +kernel, by decide +kernel, by decide +kernel⟩⟩
theorem cV_X2_stepsOf : CVw yX2_stepsOf cX2_stepsOf 11 (some .long) 3 := ⟨big_tab (List.mem_of_getElem? (i := 804) (by decide +kernel)) rfl, big_sel (q := (yX2_stepsOf, 15)) (by decide +kernel), mw_initialized_RX2, big_tab (List.mem_of_getElem? (i := 805) (by decide +kernel)) rfl, ⟨by decide +kernel, by decide +kernel, by decide +kernel⟩⟩
theorem cV_X2_after : CVw yX2_after cX2_after 3 (some .long) 1 := ⟨big_tab (List.mem_of_getElem? (i := 794) (by decide +kernel)) rfl, big_tab (List.mem_of_getElem? (i := 795) (by decide +kernel)) rfl, mw_initialized_RX2, big_tab (List.mem_of_getElem? (i := 796) (by decide +kernel)) rfl, ⟨by decide +kernel, by decide +kernel, by decide +kernel⟩⟩
theorem cV_X2_afterNear : CVw yX2_afterNear cX2_afterNear 11 (some .long) 3 := ⟨big_tab (List.mem_of_getElem? (i := 1077) (by decide +kernel)) rfl, big_tab (List.mem_of_getElem? (i := 1078) (by decide +kernel)) rfl, mw_initialized_RX2, big_tab (List.mem_of_getElem? (i := 1079) (by decide +kernel)) rfl, ⟨by decide +kernel, by decide +kernel, by decide +kernel⟩⟩
theorem cV_X2_isNear : CVw yX2_isNear cX2_isNear 5 (some .boolean) 3 := ⟨big_tab (List.mem_of_getElem? (i := 1105) (by decide +kernel)) rfl, big_tab (List.mem_of_getElem? (i := 1106) (by decide +kernel)) rfl, mw_initialized_RX2, big_tab (List.mem_of_getElem? (i := 1107) (by decide +kernel)) rfl, ⟨by decide +kernel, by decide +kernel, by decide +kernel⟩⟩
theorem cV_X2_afterBeats : CVw yX2_afterBeats cX2_afterBeats 7 (some .long) 2 := ⟨big_tab (List.mem_of_getElem? (i := 790) (by decide +kernel)) rfl, big_tab (List.mem_of_getElem? (i := 791) (by decide +kernel)) rfl, mw_initialized_RX2, big_tab (List.mem_of_getElem? (i := 792) (by decide +kernel)) rfl, ⟨by decide +kernel, by decide +kernel, by decide +kernel⟩⟩
theorem cV_X2_worthOf : CVw yX2_worthOf cX2_worthOf 5 (some .int) 1 := ⟨big_tab (List.mem_of_getElem? (i := 839) (by decide +kernel)) rfl, big_tab (List.mem_of_getElem? (i := 840) (by decide +kernel)) rfl, mw_initialized_RX2, big_tab (List.mem_of_getElem? (i := 841) (by decide +kernel)) rfl, ⟨by decide +kernel, by decide +kernel, by decide +kernel⟩⟩
theorem cI_X3_init : CIw yX3_init cX3_init 1 0 := ⟨big_tab (List.mem_of_getElem? (i := 173) (by decide +kernel)) rfl, mw_initialized_RX3, big_tab (List.mem_of_getElem? (i := 174) (by decide +kernel)) rfl, rfl, ⟨by decide +kernel, by decide +kernel, by decide +kernel⟩⟩
theorem cV_X3_begin : CVw yX3_begin cX3_begin 4 none 2 := ⟨big_tab (List.mem_of_getElem? (i := 731) (by decide +kernel)) rfl, big_tab (List.mem_of_getElem? (i := 732) (by decide +kernel)) rfl, mw_initialized_RX3, big_tab (List.mem_of_getElem? (i := 733) (by decide +kernel)) rfl, ⟨by decide +kernel, by decide +kernel, by decide +kernel⟩⟩
theorem cV_X3_row : CVw yX3_row cX3_row 1 (some .long) 0 := ⟨big_tab (List.mem_of_getElem? (i := 760) (by decide +kernel)) rfl, big_tab (List.mem_of_getElem? (i := 761) (by decide +kernel)) rfl, mw_initialized_RX3, big_tab (List.mem_of_getElem? (i := 762) (by decide +kernel)) rfl, ⟨by decide +kernel, by decide +kernel, by decide +kernel⟩⟩
theorem cV_X3_beats : CVw yX3_beats cX3_beats 1 (some .int) 0 := ⟨big_tab (List.mem_of_getElem? (i := 785) (by decide +kernel)) rfl, big_tab (List.mem_of_getElem? (i := 786) (by decide +kernel)) rfl, mw_initialized_RX3, big_tab (List.mem_of_getElem? (i := 787) (by decide +kernel)) rfl, ⟨by decide +kernel, by decide +kernel, by decide +kernel⟩⟩
theorem cV_X3_act : CVw yX3_act cX3_act 4 none 2 := ⟨big_tab (List.mem_of_getElem? (i := 807) (by decide +kernel)) rfl, big_tab (List.mem_of_getElem? (i := 808) (by decide +kernel)) rfl, mw_initialized_RX3, big_tab (List.mem_of_getElem? (i := 809) (by decide +kernel)) rfl, ⟨by decide +kernel, by decide +kernel, by decide +kernel⟩⟩
theorem cV_X3_takeBack : CVw yX3_takeBack cX3_takeBack 1 (some .boolean) 0 := ⟨big_tab (List.mem_of_getElem? (i := 823) (by decide +kernel)) rfl, big_tab (List.mem_of_getElem? (i := 824) (by decide +kernel)) rfl, mw_initialized_RX3, big_tab (List.mem_of_getElem? (i := 825) (by decide +kernel)) rfl, ⟨by decide +kernel, by decide +kernel, by decide +kernel⟩⟩
theorem cV_X3_doAgain : CVw yX3_doAgain cX3_doAgain 1 (some .boolean) 0 := ⟨big_tab (List.mem_of_getElem? (i := 831) (by decide +kernel)) rfl, big_tab (List.mem_of_getElem? (i := 832) (by decide +kernel)) rfl, mw_initialized_RX3, big_tab (List.mem_of_getElem? (i := 833) (by decide +kernel)) rfl, ⟨by decide +kernel, by decide +kernel, by decide +kernel⟩⟩
theorem cV_X3_actsDone : CVw yX3_actsDone cX3_actsDone 1 (some .int) 0 := ⟨big_tab (List.mem_of_getElem? (i := 1272) (by decide +kernel)) rfl, big_tab (List.mem_of_getElem? (i := 1273) (by decide +kernel)) rfl, mw_initialized_RX3, big_tab (List.mem_of_getElem? (i := 1274) (by decide +kernel)) rfl, ⟨by decide +kernel, by decide +kernel, by decide +kernel⟩⟩
theorem cV_X3_actsTakenBack : CVw yX3_actsTakenBack cX3_actsTakenBack 1 (some .int) 0 := ⟨big_tab (List.mem_of_getElem? (i := 1276) (by decide +kernel)) rfl, big_tab (List.mem_of_getElem? (i := 1277) (by decide +kernel)) rfl, mw_initialized_RX3, big_tab (List.mem_of_getElem? (i := 1278) (by decide +kernel)) rfl, ⟨by decide +kernel, by decide +kernel, by decide +kernel⟩⟩
theorem cI_X4_init : CIw yX4_init cX4_init 1 0 := ⟨big_tab (List.mem_of_getElem? (i := 249) (by decide +kernel)) rfl, mw_initialized_RX4, big_tab (List.mem_of_getElem? (i := 250) (by decide +kernel)) rfl, rfl, ⟨by decide +kernel, by decide +kernel, by decide +kernel⟩⟩
theorem cV_X4_take : CVw yX4_take cX4_take 3 none 2 := ⟨big_tab (List.mem_of_getElem? (i := 962) (by decide +kernel)) rfl, big_sel (q := (yX4_take, 10)) (by decide +kernel), mw_initialized_RX4, big_tab (List.mem_of_getElem? (i := 963) (by decide +kernel)) rfl, ⟨by decide +kernel, by decide +kernel, by decide +kernel⟩⟩
theorem cV_X4_makes : CVw yX4_makes cX4_makes 4 (some .int) 3 := ⟨big_tab (List.mem_of_getElem? (i := 982) (by decide +kernel)) rfl, big_sel (q := (yX4_makes, 10)) (by decide +kernel), mw_initialized_RX4, big_tab (List.mem_of_getElem? (i := 983) (by decide +kernel)) rfl, ⟨by decide +kernel, by decide +kernel, by decide +kernel⟩⟩
theorem cV_X4_leftOf : CVw yX4_leftOf cX4_leftOf 2 (some .int) 1 := ⟨big_tab (List.mem_of_getElem? (i := 974) (by decide +kernel)) rfl, big_sel (q := (yX4_leftOf, 10)) (by decide +kernel), mw_initialized_RX4, big_tab (List.mem_of_getElem? (i := 975) (by decide +kernel)) rfl, ⟨by decide +kernel, by decide +kernel, by decide +kernel⟩⟩
theorem cV_X4_ownOf : CVw yX4_ownOf cX4_ownOf 2 (some .int) 1 := ⟨big_tab (List.mem_of_getElem? (i := 978) (by decide +kernel)) rfl, big_sel (q := (yX4_ownOf, 10)) (by decide +kernel), mw_initialized_RX4, big_tab (List.mem_of_getElem? (i := 979) (by decide +kernel)) rfl, ⟨by decide +kernel, by decide +kernel, by decide +kernel⟩⟩
theorem cV_X4_shortestUnmade : CVw yX4_shortestUnmade cX4_shortestUnmade 9 (some .int) 3 := ⟨big_tab (List.mem_of_getElem? (i := 957) (by decide +kernel)) rfl, big_tab (List.mem_of_getElem? (i := 958) (by decide +kernel)) rfl, mw_initialized_RX4, big_tab (List.mem_of_getElem? (i := 959) (by decide +kernel)) rfl, ⟨by decide +kernel, by decide +kernel, by decide +kernel⟩⟩
theorem cV_X4_layLeads : CVw yX4_layLeads cX4_layLeads 6 none 0 := ⟨big_tab (List.mem_of_getElem? (i := 966) (by decide +kernel)) rfl, big_sel (q := (yX4_layLeads, 10)) (by decide +kernel), mw_initialized_RX4, big_tab (List.mem_of_getElem? (i := 967) (by decide +kernel)) rfl, ⟨by decide +kernel, by decide +kernel, by decide +kernel⟩⟩
theorem cV_X4_leadsOf : CVw yX4_leadsOf cX4_leadsOf 7 (some .long) 1 := ⟨big_tab (List.mem_of_getElem? (i := 970) (by decide +kernel)) rfl, big_sel (q := (yX4_leadsOf, 10)) (by decide +kernel), mw_initialized_RX4, big_tab (List.mem_of_getElem? (i := 971) (by decide +kernel)) rfl, ⟨by decide +kernel, by decide +kernel, by decide +kernel⟩⟩
theorem cV_X4_behind : CVw yX4_behind cX4_behind 2 (some .long) 1 := ⟨big_tab (List.mem_of_getElem? (i := 1001) (by decide +kernel)) rfl, big_sel (q := (yX4_behind, 10)) (by decide +kernel), mw_initialized_RX4, big_tab (List.mem_of_getElem? (i := 1002) (by decide +kernel)) rfl, ⟨by decide +kernel, by decide +kernel, by decide +kernel⟩⟩
theorem cV_X4_beginQueue : CVw yX4_beginQueue cX4_beginQueue 2 none 0 := ⟨big_tab (List.mem_of_getElem? (i := 988) (by decide +kernel)) rfl, big_sel (q := (yX4_beginQueue, 10)) (by decide +kernel), mw_initialized_RX4, big_tab (List.mem_of_getElem? (i := 989) (by decide +kernel)) rfl, ⟨by decide +kernel, by decide +kernel, by decide +kernel⟩⟩
theorem cV_X4_enqueue : CVw yX4_enqueue cX4_enqueue 4 none 2 := ⟨big_tab (List.mem_of_getElem? (i := 994) (by decide +kernel)) rfl, big_sel (q := (yX4_enqueue, 10)) (by decide +kernel), mw_initialized_RX4, big_tab (List.mem_of_getElem? (i := 995) (by decide +kernel)) rfl, ⟨by decide +kernel, by decide +kernel, by decide +kernel⟩⟩
theorem cV_X4_layWord : CVw yX4_layWord cX4_layWord 8 (some .int) 3 := ⟨big_tab (List.mem_of_getElem? (i := 1005) (by decide +kernel)) rfl, big_sel (q := (yX4_layWord, 10)) (by decide +kernel), mw_initialized_RX4, big_tab (List.mem_of_getElem? (i := 1006) (by decide +kernel)) rfl, ⟨by decide +kernel, by decide +kernel, by decide +kernel⟩⟩
theorem cV_X4_moveBetween : CVw yX4_moveBetween cX4_moveBetween 6 (some .int) 2 := ⟨big_tab (List.mem_of_getElem? (i := 1011) (by decide +kernel)) rfl, big_sel (q := (yX4_moveBetween, 10)) (by decide +kernel), mw_initialized_RX4, big_tab (List.mem_of_getElem? (i := 1012) (by decide +kernel)) rfl, ⟨by decide +kernel, by decide +kernel, by decide +kernel⟩⟩
theorem cV_X4_isOneToOne : CVw yX4_isOneToOne cX4_isOneToOne 5 (some .boolean) 2 := ⟨big_tab (List.mem_of_getElem? (i := 1018) (by decide +kernel)) rfl, big_tab (List.mem_of_getElem? (i := 1019) (by decide +kernel)) rfl, mw_initialized_RX4, big_tab (List.mem_of_getElem? (i := 1020) (by decide +kernel)) rfl, ⟨by decide +kernel, by decide +kernel, by decide +kernel⟩⟩
theorem cV_X4_thinOut : CVw yX4_thinOut cX4_thinOut 4 (some .boolean) 0 := ⟨big_tab (List.mem_of_getElem? (i := 1023) (by decide +kernel)) rfl, big_sel (q := (yX4_thinOut, 10)) (by decide +kernel), mw_initialized_RX4, big_tab (List.mem_of_getElem? (i := 1024) (by decide +kernel)) rfl, ⟨by decide +kernel, by decide +kernel, by decide +kernel⟩⟩
theorem cV_X4_walkTogether : CVw yX4_walkTogether cX4_walkTogether 3 (some .boolean) 2 := ⟨big_tab (List.mem_of_getElem? (i := 1027) (by decide +kernel)) rfl, big_sel (q := (yX4_walkTogether, 10)) (by decide +kernel), mw_initialized_RX4, big_tab (List.mem_of_getElem? (i := 1028) (by decide +kernel)) rfl, ⟨by decide +kernel, by decide +kernel, by decide +kernel⟩⟩
theorem cV_X4_goesOn : CVw yX4_goesOn cX4_goesOn 6 (some .boolean) 2 := ⟨big_tab (List.mem_of_getElem? (i := 1031) (by decide +kernel)) rfl, big_sel (q := (yX4_goesOn, 10)) (by decide +kernel), mw_initialized_RX4, big_tab (List.mem_of_getElem? (i := 1032) (by decide +kernel)) rfl, ⟨by decide +kernel, by decide +kernel, by decide +kernel⟩⟩
theorem cV_X4_cameFrom : CVw yX4_cameFrom cX4_cameFrom 6 (some .boolean) 2 := ⟨big_tab (List.mem_of_getElem? (i := 1035) (by decide +kernel)) rfl, big_sel (q := (yX4_cameFrom, 10)) (by decide +kernel), mw_initialized_RX4, big_tab (List.mem_of_getElem? (i := 1036) (by decide +kernel)) rfl, ⟨by decide +kernel, by decide +kernel, by decide +kernel⟩⟩
theorem cV_X4_keepsWorth : CVw yX4_keepsWorth cX4_keepsWorth 5 (some .boolean) 2 := ⟨big_tab (List.mem_of_getElem? (i := 1042) (by decide +kernel)) rfl, big_tab (List.mem_of_getElem? (i := 1043) (by decide +kernel)) rfl, mw_initialized_RX4, big_tab (List.mem_of_getElem? (i := 1044) (by decide +kernel)) rfl, ⟨by decide +kernel, by decide +kernel, by decide +kernel⟩⟩
theorem cV_X4_isRing : CVw yX4_isRing cX4_isRing 4 (some .boolean) 2 := ⟨big_tab (List.mem_of_getElem? (i := 1047) (by decide +kernel)) rfl, big_sel (q := (yX4_isRing, 10)) (by decide +kernel), mw_initialized_RX4, big_tab (List.mem_of_getElem? (i := 1048) (by decide +kernel)) rfl, ⟨by decide +kernel, by decide +kernel, by decide +kernel⟩⟩
theorem cV_X4_gainOf : CVw yX4_gainOf cX4_gainOf 6 (some .int) 2 := ⟨big_tab (List.mem_of_getElem? (i := 1052) (by decide +kernel)) rfl, big_sel (q := (yX4_gainOf, 10)) (by decide +kernel), mw_initialized_RX4, big_tab (List.mem_of_getElem? (i := 1053) (by decide +kernel)) rfl, ⟨by decide +kernel, by decide +kernel, by decide +kernel⟩⟩
theorem cI_X5_init : CIw yX5_init cX5_init 1 0 := ⟨big_tab (List.mem_of_getElem? (i := 227) (by decide +kernel)) rfl, mw_initialized_RX5, big_tab (List.mem_of_getElem? (i := 228) (by decide +kernel)) rfl, rfl, ⟨by decide +kernel, by decide +kernel, by decide +kernel⟩⟩
theorem cV_X5_count : CVw yX5_count cX5_count 1 (some .long) 0 := ⟨big_tab (List.mem_of_getElem? (i := 916) (by decide +kernel)) rfl, big_tab (List.mem_of_getElem? (i := 917) (by decide +kernel)) rfl, mw_initialized_RX5, big_tab (List.mem_of_getElem? (i := 918) (by decide +kernel)) rfl, ⟨by decide +kernel, by decide +kernel, by decide +kernel⟩⟩
theorem cV_X5_firstDoes : CVw yX5_firstDoes cX5_firstDoes 2 (some .int) 1 := ⟨big_tab (List.mem_of_getElem? (i := 920) (by decide +kernel)) rfl, big_tab (List.mem_of_getElem? (i := 921) (by decide +kernel)) rfl, mw_initialized_RX5, big_tab (List.mem_of_getElem? (i := 922) (by decide +kernel)) rfl, ⟨by decide +kernel, by decide +kernel, by decide +kernel⟩⟩
theorem cV_X5_seek : CVw yX5_seek cX5_seek 5 none 2 := ⟨big_tab (List.mem_of_getElem? (i := 872) (by decide +kernel)) rfl, big_tab (List.mem_of_getElem? (i := 873) (by decide +kernel)) rfl, mw_initialized_RX5, big_tab (List.mem_of_getElem? (i := 874) (by decide +kernel)) rfl, ⟨by decide +kernel, by decide +kernel, by decide +kernel⟩⟩
theorem cV_X5_seekInRing : CVw yX5_seekInRing cX5_seekInRing 3 none 0 := ⟨big_tab (List.mem_of_getElem? (i := 878) (by decide +kernel)) rfl, big_sel (q := (yX5_seekInRing, 5)) (by decide +kernel), mw_initialized_RX5, big_tab (List.mem_of_getElem? (i := 879) (by decide +kernel)) rfl, ⟨by decide +kernel, by decide +kernel, by decide +kernel⟩⟩
theorem cS_X5_wayAt : CSw yX5_wayAt cX5_wayAt 3 (some .int) 3 := ⟨big_tab (List.mem_of_getElem? (i := 885) (by decide +kernel)) rfl, mw_initialized_RX5, big_tab (List.mem_of_getElem? (i := 886) (by decide +kernel)) rfl, ⟨by decide +kernel, by decide +kernel, by decide +kernel⟩⟩
theorem cV_X5_layWays : CVw yX5_layWays cX5_layWays 6 none 2 := ⟨big_tab (List.mem_of_getElem? (i := 882) (by decide +kernel)) rfl, big_sel (q := (yX5_layWays, 5)) (by decide +kernel), mw_initialized_RX5, big_tab (List.mem_of_getElem? (i := 883) (by decide +kernel)) rfl, ⟨by decide +kernel, by decide +kernel, by decide +kernel⟩⟩
theorem cV_X5_waysAtEnd : CVw yX5_waysAtEnd cX5_waysAtEnd 6 (some .long) 4 := ⟨big_tab (List.mem_of_getElem? (i := 889) (by decide +kernel)) rfl, big_sel (q := (yX5_waysAtEnd, 5)) (by decide +kernel), mw_initialized_RX5, big_tab (List.mem_of_getElem? (i := 890) (by decide +kernel)) rfl, ⟨by decide +kernel, by decide +kernel, by decide +kernel⟩⟩
theorem cV_X5_waysBehind : CVw yX5_waysBehind cX5_waysBehind 8 (some .long) 3 := ⟨big_tab (List.mem_of_getElem? (i := 900) (by decide +kernel)) rfl, big_sel (q := (yX5_waysBehind, 5)) (by decide +kernel), mw_initialized_RX5, big_tab (List.mem_of_getElem? (i := 901) (by decide +kernel)) rfl, ⟨by decide +kernel, by decide +kernel, by decide +kernel⟩⟩
theorem cV_X5_leads : CVw yX5_leads cX5_leads 5 (some .boolean) 4 := ⟨big_tab (List.mem_of_getElem? (i := 893) (by decide +kernel)) rfl, big_sel (q := (yX5_leads, 5)) (by decide +kernel), mw_initialized_RX5, big_tab (List.mem_of_getElem? (i := 894) (by decide +kernel)) rfl, ⟨by decide +kernel, by decide +kernel, by decide +kernel⟩⟩
theorem cV_X5_addUp : CVw yX5_addUp cX5_addUp 7 none 2 := ⟨big_tab (List.mem_of_getElem? (i := 904) (by decide +kernel)) rfl, big_sel (q := (yX5_addUp, 5)) (by decide +kernel), mw_initialized_RX5, big_tab (List.mem_of_getElem? (i := 905) (by decide +kernel)) rfl, ⟨by decide +kernel, by decide +kernel, by decide +kernel⟩⟩
theorem cV_X5_keyOfFirst : CVw yX5_keyOfFirst cX5_keyOfFirst 9 (some .long) 2 := ⟨big_tab (List.mem_of_getElem? (i := 908) (by decide +kernel)) rfl, big_sel (q := (yX5_keyOfFirst, 5)) (by decide +kernel), mw_initialized_RX5, big_tab (List.mem_of_getElem? (i := 909) (by decide +kernel)) rfl, ⟨by decide +kernel, by decide +kernel, by decide +kernel⟩⟩
theorem cV_X5_firstBehind : CVw yX5_firstBehind cX5_firstBehind 5 (some .int) 3 := ⟨big_tab (List.mem_of_getElem? (i := 912) (by decide +kernel)) rfl, big_sel (q := (yX5_firstBehind, 5)) (by decide +kernel), mw_initialized_RX5, big_tab (List.mem_of_getElem? (i := 913) (by decide +kernel)) rfl, ⟨by decide +kernel, by decide +kernel, by decide +kernel⟩⟩
theorem cI_X6_init : CIw yX6_init cX6_init 1 0 := ⟨big_tab (List.mem_of_getElem? (i := 192) (by decide +kernel)) rfl, mw_initialized_RX6, big_tab (List.mem_of_getElem? (i := 193) (by decide +kernel)) rfl, rfl, ⟨by decide +kernel, by decide +kernel, by decide +kernel⟩⟩
theorem cV_X6_clear : CVw yX6_clear cX6_clear 1 none 0 := ⟨big_tab (List.mem_of_getElem? (i := 736) (by decide +kernel)) rfl, big_tab (List.mem_of_getElem? (i := 737) (by decide +kernel)) rfl, mw_initialized_RX6, big_tab (List.mem_of_getElem? (i := 738) (by decide +kernel)) rfl, ⟨by decide +kernel, by decide +kernel, by decide +kernel⟩⟩
theorem cV_X6_size : CVw yX6_size cX6_size 1 (some .int) 0 := ⟨big_tab (List.mem_of_getElem? (i := 1284) (by decide +kernel)) rfl, big_tab (List.mem_of_getElem? (i := 1285) (by decide +kernel)) rfl, mw_initialized_RX6, big_tab (List.mem_of_getElem? (i := 1286) (by decide +kernel)) rfl, ⟨by decide +kernel, by decide +kernel, by decide +kernel⟩⟩
theorem cV_X6_number : CVw yX6_number cX6_number 2 (some .int) 1 := ⟨big_tab (List.mem_of_getElem? (i := 1139) (by decide +kernel)) rfl, big_tab (List.mem_of_getElem? (i := 1140) (by decide +kernel)) rfl, mw_initialized_RX6, big_tab (List.mem_of_getElem? (i := 1141) (by decide +kernel)) rfl, ⟨by decide +kernel, by decide +kernel, by decide +kernel⟩⟩
theorem cV_X6_add : CVw yX6_add cX6_add 2 none 1 := ⟨big_tab (List.mem_of_getElem? (i := 924) (by decide +kernel)) rfl, big_tab (List.mem_of_getElem? (i := 925) (by decide +kernel)) rfl, mw_initialized_RX6, big_tab (List.mem_of_getElem? (i := 926) (by decide +kernel)) rfl, ⟨by decide +kernel, by decide +kernel, by decide +kernel⟩⟩
theorem cV_X6_reserve : CVw yX6_reserve cX6_reserve 2 none 1 := ⟨big_tab (List.mem_of_getElem? (i := 928) (by decide +kernel)) rfl, big_tab (List.mem_of_getElem? (i := 929) (by decide +kernel)) rfl, mw_initialized_RX6, big_tab (List.mem_of_getElem? (i := 930) (by decide +kernel)) rfl, ⟨by decide +kernel, by decide +kernel, by decide +kernel⟩⟩
theorem cV_X6_put : CVw yX6_put cX6_put 3 none 2 := ⟨big_tab (List.mem_of_getElem? (i := 945) (by decide +kernel)) rfl, big_tab (List.mem_of_getElem? (i := 946) (by decide +kernel)) rfl, mw_initialized_RX6, big_tab (List.mem_of_getElem? (i := 947) (by decide +kernel)) rfl, ⟨by decide +kernel, by decide +kernel, by decide +kernel⟩⟩
theorem cI_X7_init : CIw yX7_init cX7_init 1 0 := ⟨big_tab (List.mem_of_getElem? (i := 33) (by decide +kernel)) rfl, mw_initialized_RX7, big_tab (List.mem_of_getElem? (i := 34) (by decide +kernel)) rfl, rfl, ⟨by decide +kernel, by decide +kernel, by decide +kernel⟩⟩
theorem cV_X7_faultFound : CVw yX7_faultFound cX7_faultFound 1 (some .int) 0 := ⟨big_tab (List.mem_of_getElem? (i := 692) (by decide +kernel)) rfl, big_tab (List.mem_of_getElem? (i := 693) (by decide +kernel)) rfl, mw_initialized_RX7, big_tab (List.mem_of_getElem? (i := 694) (by decide +kernel)) rfl, ⟨by decide +kernel, by decide +kernel, by decide +kernel⟩⟩
theorem cV_X7_placeOfFault : CVw yX7_placeOfFault cX7_placeOfFault 1 (some .int) 0 := ⟨big_tab (List.mem_of_getElem? (i := 696) (by decide +kernel)) rfl, big_tab (List.mem_of_getElem? (i := 697) (by decide +kernel)) rfl, mw_initialized_RX7, big_tab (List.mem_of_getElem? (i := 698) (by decide +kernel)) rfl, ⟨by decide +kernel, by decide +kernel, by decide +kernel⟩⟩
theorem cV_X7_begin : CVw yX7_begin cX7_begin 4 none 3 := ⟨big_tab (List.mem_of_getElem? (i := 444) (by decide +kernel)) rfl, big_tab (List.mem_of_getElem? (i := 445) (by decide +kernel)) rfl, mw_initialized_RX7, big_tab (List.mem_of_getElem? (i := 446) (by decide +kernel)) rfl, ⟨by decide +kernel, by decide +kernel, by decide +kernel⟩⟩
theorem cV_X7_hasMore : CVw yX7_hasMore cX7_hasMore 1 (some .boolean) 0 := ⟨big_tab (List.mem_of_getElem? (i := 590) (by decide +kernel)) rfl, big_tab (List.mem_of_getElem? (i := 591) (by decide +kernel)) rfl, mw_initialized_RX7, big_tab (List.mem_of_getElem? (i := 592) (by decide +kernel)) rfl, ⟨by decide +kernel, by decide +kernel, by decide +kernel⟩⟩
theorem cV_X7_refuse : CVw yX7_refuse cX7_refuse 2 (some .boolean) 1 := ⟨big_tab (List.mem_of_getElem? (i := 607) (by decide +kernel)) rfl, big_sel (q := (yX7_refuse, 16)) (by decide +kernel), mw_initialized_RX7, big_tab (List.mem_of_getElem? (i := 608) (by decide +kernel)) rfl, ⟨by decide +kernel, by decide +kernel, by decide +kernel⟩⟩
theorem cV_X7_advance : CVw yX7_advance cX7_advance 1 none 0 := ⟨big_tab (List.mem_of_getElem? (i := 459) (by decide +kernel)) rfl, big_sel (q := (yX7_advance, 16)) (by decide +kernel), mw_initialized_RX7, big_tab (List.mem_of_getElem? (i := 460) (by decide +kernel)) rfl, ⟨by decide +kernel, by decide +kernel, by decide +kernel⟩⟩
theorem cS_X7_isBlank : CSw yX7_isBlank cX7_isBlank 1 (some .boolean) 1 := ⟨big_tab (List.mem_of_getElem? (i := 462) (by decide +kernel)) rfl, mw_initialized_RX7, big_tab (List.mem_of_getElem? (i := 463) (by decide +kernel)) rfl, ⟨by decide +kernel, by decide +kernel, by decide +kernel⟩⟩
theorem cS_X7_isLetter : CSw yX7_isLetter cX7_isLetter 1 (some .boolean) 1 := ⟨big_tab (List.mem_of_getElem? (i := 465) (by decide +kernel)) rfl, mw_initialized_RX7, big_tab (List.mem_of_getElem? (i := 466) (by decide +kernel)) rfl, ⟨by decide +kernel, by decide +kernel, by decide +kernel⟩⟩
theorem cS_X7_isDigit : CSw yX7_isDigit cX7_isDigit 1 (some .boolean) 1 := ⟨big_tab (List.mem_of_getElem? (i := 525) (by decide +kernel)) rfl, mw_initialized_RX7, big_tab (List.mem_of_getElem? (i := 526) (by decide +kernel)) rfl, ⟨by decide +kernel, by decide +kernel, by decide +kernel⟩⟩
theorem cV_X7_packWord : CVw yX7_packWord cX7_packWord 1 none 0 := ⟨big_tab (List.mem_of_getElem? (i := 469) (by decide +kernel)) rfl, big_sel (q := (yX7_packWord, 16)) (by decide +kernel), mw_initialized_RX7, big_tab (List.mem_of_getElem? (i := 470) (by decide +kernel)) rfl, ⟨by decide +kernel, by decide +kernel, by decide +kernel⟩⟩
theorem cV_X7_scanNumber : CVw yX7_scanNumber cX7_scanNumber 2 none 0 := ⟨big_tab (List.mem_of_getElem? (i := 529) (by decide +kernel)) rfl, big_sel (q := (yX7_scanNumber, 16)) (by decide +kernel), mw_initialized_RX7, big_tab (List.mem_of_getElem? (i := 530) (by decide +kernel)) rfl, ⟨by decide +kernel, by decide +kernel, by decide +kernel⟩⟩
theorem cS_X7_wordToken : CSw yX7_wordToken cX7_wordToken 7 (some .int) 1 := ⟨big_tab (List.mem_of_getElem? (i := 473) (by decide +kernel)) rfl, mw_initialized_RX7, big_tab (List.mem_of_getElem? (i := 474) (by decide +kernel)) rfl, ⟨by decide +kernel, by decide +kernel, by decide +kernel⟩⟩
theorem cV_X7_expect : CVw yX7_expect cX7_expect 2 (some .boolean) 1 := ⟨big_tab (List.mem_of_getElem? (i := 643) (by decide +kernel)) rfl, big_sel (q := (yX7_expect, 16)) (by decide +kernel), mw_initialized_RX7, big_tab (List.mem_of_getElem? (i := 644) (by decide +kernel)) rfl, ⟨by decide +kernel, by decide +kernel, by decide +kernel⟩⟩
theorem cV_X7_takeNumber : CVw yX7_takeNumber cX7_takeNumber 4 (some .int) 2 := ⟨big_tab (List.mem_of_getElem? (i := 611) (by decide +kernel)) rfl, big_sel (q := (yX7_takeNumber, 16)) (by decide +kernel), mw_initialized_RX7, big_tab (List.mem_of_getElem? (i := 612) (by decide +kernel)) rfl, ⟨by decide +kernel, by decide +kernel, by decide +kernel⟩⟩
theorem cV_X7_takeMove : CVw yX7_takeMove cX7_takeMove 1 (some .int) 0 := ⟨big_tab (List.mem_of_getElem? (i := 615) (by decide +kernel)) rfl, big_sel (q := (yX7_takeMove, 16)) (by decide +kernel), mw_initialized_RX7, big_tab (List.mem_of_getElem? (i := 616) (by decide +kernel)) rfl, ⟨by decide +kernel, by decide +kernel, by decide +kernel⟩⟩
theorem cV_X7_isTold : CVw yX7_isTold cX7_isTold 2 (some .boolean) 1 := ⟨big_tab (List.mem_of_getElem? (i := 603) (by decide +kernel)) rfl, big_sel (q := (yX7_isTold, 16)) (by decide +kernel), mw_initialized_RX7, big_tab (List.mem_of_getElem? (i := 604) (by decide +kernel)) rfl, ⟨by decide +kernel, by decide +kernel, by decide +kernel⟩⟩
theorem cV_X7_startsLine : CVw yX7_startsLine cX7_startsLine 2 (some .boolean) 1 := ⟨big_tab (List.mem_of_getElem? (i := 599) (by decide +kernel)) rfl, big_sel (q := (yX7_startsLine, 16)) (by decide +kernel), mw_initialized_RX7, big_tab (List.mem_of_getElem? (i := 600) (by decide +kernel)) rfl, ⟨by decide +kernel, by decide +kernel, by decide +kernel⟩⟩
theorem cV_X7_readLine : CVw yX7_readLine cX7_readLine 3 (some .boolean) 0 := ⟨big_tab (List.mem_of_getElem? (i := 594) (by decide +kernel)) rfl, big_tab (List.mem_of_getElem? (i := 595) (by decide +kernel)) rfl, mw_initialized_RX7, big_tab (List.mem_of_getElem? (i := 596) (by decide +kernel)) rfl, ⟨by decide +kernel, by decide +kernel, by decide +kernel⟩⟩
theorem cV_X7_readWorths : CVw yX7_readWorths cX7_readWorths 2 (some .boolean) 0 := ⟨big_tab (List.mem_of_getElem? (i := 689) (by decide +kernel)) rfl, big_sel (q := (yX7_readWorths, 16)) (by decide +kernel), mw_initialized_RX7, big_tab (List.mem_of_getElem? (i := 690) (by decide +kernel)) rfl, ⟨by decide +kernel, by decide +kernel, by decide +kernel⟩⟩
theorem cV_X7_ruleNamed : CVw yX7_ruleNamed cX7_ruleNamed 4 (some .int) 1 := ⟨big_tab (List.mem_of_getElem? (i := 623) (by decide +kernel)) rfl, big_sel (q := (yX7_ruleNamed, 16)) (by decide +kernel), mw_initialized_RX7, big_tab (List.mem_of_getElem? (i := 624) (by decide +kernel)) rfl, ⟨by decide +kernel, by decide +kernel, by decide +kernel⟩⟩
theorem cV_X7_readRule : CVw yX7_readRule cX7_readRule 3 (some .boolean) 0 := ⟨big_tab (List.mem_of_getElem? (i := 619) (by decide +kernel)) rfl, big_sel (q := (yX7_readRule, 16)) (by decide +kernel), mw_initialized_RX7, big_tab (List.mem_of_getElem? (i := 620) (by decide +kernel)) rfl, ⟨by decide +kernel, by decide +kernel, by decide +kernel⟩⟩
theorem cV_X7_readMan : CVw yX7_readMan cX7_readMan 3 (some .boolean) 0 := ⟨big_tab (List.mem_of_getElem? (i := 668) (by decide +kernel)) rfl, big_sel (q := (yX7_readMan, 16)) (by decide +kernel), mw_initialized_RX7, big_tab (List.mem_of_getElem? (i := 669) (by decide +kernel)) rfl, ⟨by decide +kernel, by decide +kernel, by decide +kernel⟩⟩
theorem cV_X7_readBy : CVw yX7_readBy cX7_readBy 3 (some .boolean) 1 := ⟨big_tab (List.mem_of_getElem? (i := 677) (by decide +kernel)) rfl, big_sel (q := (yX7_readBy, 16)) (by decide +kernel), mw_initialized_RX7, big_tab (List.mem_of_getElem? (i := 678) (by decide +kernel)) rfl, ⟨by decide +kernel, by decide +kernel, by decide +kernel⟩⟩
theorem cV_X7_readMarks : CVw yX7_readMarks cX7_readMarks 2 (some .boolean) 1 := ⟨big_tab (List.mem_of_getElem? (i := 681) (by decide +kernel)) rfl, big_sel (q := (yX7_readMarks, 16)) (by decide +kernel), mw_initialized_RX7, big_tab (List.mem_of_getElem? (i := 682) (by decide +kernel)) rfl, ⟨by decide +kernel, by decide +kernel, by decide +kernel⟩⟩
theorem cV_X7_readWindow : CVw yX7_readWindow cX7_readWindow 2 (some .boolean) 1 := ⟨big_tab (List.mem_of_getElem? (i := 685) (by decide +kernel)) rfl, big_sel (q := (yX7_readWindow, 16)) (by decide +kernel), mw_initialized_RX7, big_tab (List.mem_of_getElem? (i := 686) (by decide +kernel)) rfl, ⟨by decide +kernel, by decide +kernel, by decide +kernel⟩⟩
theorem cV_X7_readFormula : CVw yX7_readFormula cX7_readFormula 6 (some .boolean) 2 := ⟨big_tab (List.mem_of_getElem? (i := 627) (by decide +kernel)) rfl, big_sel (q := (yX7_readFormula, 16)) (by decide +kernel), mw_initialized_RX7, big_tab (List.mem_of_getElem? (i := 628) (by decide +kernel)) rfl, ⟨by decide +kernel, by decide +kernel, by decide +kernel⟩⟩
theorem cS_X7_levelOf : CSw yX7_levelOf cX7_levelOf 1 (some .int) 1 := ⟨big_tab (List.mem_of_getElem? (i := 650) (by decide +kernel)) rfl, mw_initialized_RX7, big_tab (List.mem_of_getElem? (i := 651) (by decide +kernel)) rfl, ⟨by decide +kernel, by decide +kernel, by decide +kernel⟩⟩
theorem cV_X7_readNot : CVw yX7_readNot cX7_readNot 4 (some .boolean) 1 := ⟨big_tab (List.mem_of_getElem? (i := 647) (by decide +kernel)) rfl, big_sel (q := (yX7_readNot, 16)) (by decide +kernel), mw_initialized_RX7, big_tab (List.mem_of_getElem? (i := 648) (by decide +kernel)) rfl, ⟨by decide +kernel, by decide +kernel, by decide +kernel⟩⟩
theorem cV_X7_readUnit : CVw yX7_readUnit cX7_readUnit 4 (some .boolean) 1 := ⟨big_tab (List.mem_of_getElem? (i := 631) (by decide +kernel)) rfl, big_sel (q := (yX7_readUnit, 16)) (by decide +kernel), mw_initialized_RX7, big_tab (List.mem_of_getElem? (i := 632) (by decide +kernel)) rfl, ⟨by decide +kernel, by decide +kernel, by decide +kernel⟩⟩
theorem cV_X7_layPart : CVw yX7_layPart cX7_layPart 2 none 0 := ⟨big_tab (List.mem_of_getElem? (i := 635) (by decide +kernel)) rfl, big_sel (q := (yX7_layPart, 16)) (by decide +kernel), mw_initialized_RX7, big_tab (List.mem_of_getElem? (i := 636) (by decide +kernel)) rfl, ⟨by decide +kernel, by decide +kernel, by decide +kernel⟩⟩
theorem cV_X7_valueOf : CVw yX7_valueOf cX7_valueOf 2 (some .int) 1 := ⟨big_tab (List.mem_of_getElem? (i := 639) (by decide +kernel)) rfl, big_sel (q := (yX7_valueOf, 16)) (by decide +kernel), mw_initialized_RX7, big_tab (List.mem_of_getElem? (i := 640) (by decide +kernel)) rfl, ⟨by decide +kernel, by decide +kernel, by decide +kernel⟩⟩
theorem cV_X7_joinParts : CVw yX7_joinParts cX7_joinParts 4 none 1 := ⟨big_tab (List.mem_of_getElem? (i := 654) (by decide +kernel)) rfl, big_sel (q := (yX7_joinParts, 16)) (by decide +kernel), mw_initialized_RX7, big_tab (List.mem_of_getElem? (i := 655) (by decide +kernel)) rfl, ⟨by decide +kernel, by decide +kernel, by decide +kernel⟩⟩
theorem cS_X7_joined : CSw yX7_joined cX7_joined 3 (some .int) 3 := ⟨big_tab (List.mem_of_getElem? (i := 657) (by decide +kernel)) rfl, mw_initialized_RX7, big_tab (List.mem_of_getElem? (i := 658) (by decide +kernel)) rfl, ⟨by decide +kernel, by decide +kernel, by decide +kernel⟩⟩
theorem cI_X8_init : CIw yX8_init cX8_init 1 0 := ⟨big_tab (List.mem_of_getElem? (i := 320) (by decide +kernel)) rfl, mw_initialized_RX8, big_tab (List.mem_of_getElem? (i := 321) (by decide +kernel)) rfl, rfl, ⟨by decide +kernel, by decide +kernel, by decide +kernel⟩⟩
theorem cV_X8_forget : CVw yX8_forget cX8_forget 1 none 0 := ⟨big_tab (List.mem_of_getElem? (i := 744) (by decide +kernel)) rfl, big_tab (List.mem_of_getElem? (i := 745) (by decide +kernel)) rfl, mw_initialized_RX8, big_tab (List.mem_of_getElem? (i := 746) (by decide +kernel)) rfl, ⟨by decide +kernel, by decide +kernel, by decide +kernel⟩⟩
theorem cV_X8_sights : CVw yX8_sights cX8_sights 1 (some .int) 0 := ⟨big_tab (List.mem_of_getElem? (i := 1280) (by decide +kernel)) rfl, big_tab (List.mem_of_getElem? (i := 1281) (by decide +kernel)) rfl, mw_initialized_RX8, big_tab (List.mem_of_getElem? (i := 1282) (by decide +kernel)) rfl, ⟨by decide +kernel, by decide +kernel, by decide +kernel⟩⟩
theorem cV_X8_tell : CVw yX8_tell cX8_tell 5 (some .int) 4 := ⟨big_tab (List.mem_of_getElem? (i := 1147) (by decide +kernel)) rfl, big_tab (List.mem_of_getElem? (i := 1148) (by decide +kernel)) rfl, mw_initialized_RX8, big_tab (List.mem_of_getElem? (i := 1149) (by decide +kernel)) rfl, ⟨by decide +kernel, by decide +kernel, by decide +kernel⟩⟩
theorem cV_X8_takeAway : CVw yX8_takeAway cX8_takeAway 3 (some .boolean) 2 := ⟨big_tab (List.mem_of_getElem? (i := 1155) (by decide +kernel)) rfl, big_tab (List.mem_of_getElem? (i := 1156) (by decide +kernel)) rfl, mw_initialized_RX8, big_tab (List.mem_of_getElem? (i := 1157) (by decide +kernel)) rfl, ⟨by decide +kernel, by decide +kernel, by decide +kernel⟩⟩
theorem cV_X8_doubt : CVw yX8_doubt cX8_doubt 2 none 1 := ⟨big_tab (List.mem_of_getElem? (i := 1173) (by decide +kernel)) rfl, big_tab (List.mem_of_getElem? (i := 1174) (by decide +kernel)) rfl, mw_initialized_RX8, big_tab (List.mem_of_getElem? (i := 1175) (by decide +kernel)) rfl, ⟨by decide +kernel, by decide +kernel, by decide +kernel⟩⟩
theorem cV_X8_doubted : CVw yX8_doubted cX8_doubted 1 (some .int) 0 := ⟨big_tab (List.mem_of_getElem? (i := 1288) (by decide +kernel)) rfl, big_tab (List.mem_of_getElem? (i := 1289) (by decide +kernel)) rfl, mw_initialized_RX8, big_tab (List.mem_of_getElem? (i := 1290) (by decide +kernel)) rfl, ⟨by decide +kernel, by decide +kernel, by decide +kernel⟩⟩
theorem cV_X8_doubts : CVw yX8_doubts cX8_doubts 2 (some .boolean) 1 := ⟨big_tab (List.mem_of_getElem? (i := 1211) (by decide +kernel)) rfl, big_tab (List.mem_of_getElem? (i := 1212) (by decide +kernel)) rfl, mw_initialized_RX8, big_tab (List.mem_of_getElem? (i := 1213) (by decide +kernel)) rfl, ⟨by decide +kernel, by decide +kernel, by decide +kernel⟩⟩
theorem cV_X8_counts : CVw yX8_counts cX8_counts 3 (some .boolean) 2 := ⟨big_tab (List.mem_of_getElem? (i := 1193) (by decide +kernel)) rfl, big_sel (q := (yX8_counts, 17)) (by decide +kernel), mw_initialized_RX8, big_tab (List.mem_of_getElem? (i := 1194) (by decide +kernel)) rfl, ⟨by decide +kernel, by decide +kernel, by decide +kernel⟩⟩
theorem cV_X8_gather : CVw yX8_gather cX8_gather 5 (some .int) 2 := ⟨big_tab (List.mem_of_getElem? (i := 1186) (by decide +kernel)) rfl, big_sel (q := (yX8_gather, 17)) (by decide +kernel), mw_initialized_RX8, big_tab (List.mem_of_getElem? (i := 1187) (by decide +kernel)) rfl, ⟨by decide +kernel, by decide +kernel, by decide +kernel⟩⟩
theorem cV_X8_demand : CVw yX8_demand cX8_demand 5 none 3 := ⟨big_tab (List.mem_of_getElem? (i := 1197) (by decide +kernel)) rfl, big_sel (q := (yX8_demand, 17)) (by decide +kernel), mw_initialized_RX8, big_tab (List.mem_of_getElem? (i := 1198) (by decide +kernel)) rfl, ⟨by decide +kernel, by decide +kernel, by decide +kernel⟩⟩
theorem cV_X8_holds : CVw yX8_holds cX8_holds 12 (some .boolean) 4 := ⟨big_tab (List.mem_of_getElem? (i := 1221) (by decide +kernel)) rfl, big_sel (q := (yX8_holds, 17)) (by decide +kernel), mw_initialized_RX8, big_tab (List.mem_of_getElem? (i := 1222) (by decide +kernel)) rfl, ⟨by decide +kernel, by decide +kernel, by decide +kernel⟩⟩
theorem cV_X8_isAsSeen : CVw yX8_isAsSeen cX8_isAsSeen 4 (some .boolean) 2 := ⟨big_tab (List.mem_of_getElem? (i := 1225) (by decide +kernel)) rfl, big_sel (q := (yX8_isAsSeen, 17)) (by decide +kernel), mw_initialized_RX8, big_tab (List.mem_of_getElem? (i := 1226) (by decide +kernel)) rfl, ⟨by decide +kernel, by decide +kernel, by decide +kernel⟩⟩
theorem cV_X8_fitting : CVw yX8_fitting cX8_fitting 4 (some .int) 2 := ⟨big_tab (List.mem_of_getElem? (i := 1181) (by decide +kernel)) rfl, big_tab (List.mem_of_getElem? (i := 1182) (by decide +kernel)) rfl, mw_initialized_RX8, big_tab (List.mem_of_getElem? (i := 1183) (by decide +kernel)) rfl, ⟨by decide +kernel, by decide +kernel, by decide +kernel⟩⟩
theorem cV_X8_movesThatFit : CVw yX8_movesThatFit cX8_movesThatFit 2 (some .int) 1 := ⟨big_tab (List.mem_of_getElem? (i := 1239) (by decide +kernel)) rfl, big_tab (List.mem_of_getElem? (i := 1240) (by decide +kernel)) rfl, mw_initialized_RX8, big_tab (List.mem_of_getElem? (i := 1241) (by decide +kernel)) rfl, ⟨by decide +kernel, by decide +kernel, by decide +kernel⟩⟩
theorem cV_X8_listUnsure : CVw yX8_listUnsure cX8_listUnsure 3 (some .int) 0 := ⟨big_tab (List.mem_of_getElem? (i := 1208) (by decide +kernel)) rfl, big_sel (q := (yX8_listUnsure, 17)) (by decide +kernel), mw_initialized_RX8, big_tab (List.mem_of_getElem? (i := 1209) (by decide +kernel)) rfl, ⟨by decide +kernel, by decide +kernel, by decide +kernel⟩⟩
theorem cV_X8_tryAll : CVw yX8_tryAll cX8_tryAll 6 none 0 := ⟨big_tab (List.mem_of_getElem? (i := 1204) (by decide +kernel)) rfl, big_sel (q := (yX8_tryAll, 17)) (by decide +kernel), mw_initialized_RX8, big_tab (List.mem_of_getElem? (i := 1205) (by decide +kernel)) rfl, ⟨by decide +kernel, by decide +kernel, by decide +kernel⟩⟩
theorem cV_X8_rowOfCase : CVw yX8_rowOfCase cX8_rowOfCase 7 (some .long) 2 := ⟨big_tab (List.mem_of_getElem? (i := 1217) (by decide +kernel)) rfl, big_sel (q := (yX8_rowOfCase, 17)) (by decide +kernel), mw_initialized_RX8, big_tab (List.mem_of_getElem? (i := 1218) (by decide +kernel)) rfl, ⟨by decide +kernel, by decide +kernel, by decide +kernel⟩⟩
theorem cV_X8_noteMoves : CVw yX8_noteMoves cX8_noteMoves 5 none 2 := ⟨big_tab (List.mem_of_getElem? (i := 1231) (by decide +kernel)) rfl, big_sel (q := (yX8_noteMoves, 17)) (by decide +kernel), mw_initialized_RX8, big_tab (List.mem_of_getElem? (i := 1232) (by decide +kernel)) rfl, ⟨by decide +kernel, by decide +kernel, by decide +kernel⟩⟩
theorem cV_X8_nothingWrong : CVw yX8_nothingWrong cX8_nothingWrong 3 (some .boolean) 2 := ⟨big_tab (List.mem_of_getElem? (i := 1247) (by decide +kernel)) rfl, big_tab (List.mem_of_getElem? (i := 1248) (by decide +kernel)) rfl, mw_initialized_RX8, big_tab (List.mem_of_getElem? (i := 1249) (by decide +kernel)) rfl, ⟨by decide +kernel, by decide +kernel, by decide +kernel⟩⟩
theorem cV_X8_menMaybeCracked : CVw yX8_menMaybeCracked cX8_menMaybeCracked 5 (some .int) 2 := ⟨big_tab (List.mem_of_getElem? (i := 1251) (by decide +kernel)) rfl, big_tab (List.mem_of_getElem? (i := 1252) (by decide +kernel)) rfl, mw_initialized_RX8, big_tab (List.mem_of_getElem? (i := 1253) (by decide +kernel)) rfl, ⟨by decide +kernel, by decide +kernel, by decide +kernel⟩⟩
theorem cV_X8_menMaybeWindowed : CVw yX8_menMaybeWindowed cX8_menMaybeWindowed 6 (some .int) 2 := ⟨big_tab (List.mem_of_getElem? (i := 1256) (by decide +kernel)) rfl, big_tab (List.mem_of_getElem? (i := 1257) (by decide +kernel)) rfl, mw_initialized_RX8, big_tab (List.mem_of_getElem? (i := 1258) (by decide +kernel)) rfl, ⟨by decide +kernel, by decide +kernel, by decide +kernel⟩⟩
theorem cI_X9_init : CIw yX9_init cX9_init 1 0 := ⟨big_tab (List.mem_of_getElem? (i := 25) (by decide +kernel)) rfl, mw_initialized_RX9, big_tab (List.mem_of_getElem? (i := 26) (by decide +kernel)) rfl, rfl, ⟨by decide +kernel, by decide +kernel, by decide +kernel⟩⟩
theorem cV_X9_feed : CVw yX9_feed cX9_feed 6 (some .int) 5 := ⟨big_tab (List.mem_of_getElem? (i := 428) (by decide +kernel)) rfl, big_tab (List.mem_of_getElem? (i := 429) (by decide +kernel)) rfl, mw_initialized_RX9, big_tab (List.mem_of_getElem? (i := 430) (by decide +kernel)) rfl, ⟨by decide +kernel, by decide +kernel, by decide +kernel⟩⟩
theorem cV_X9_tapeNumber : CVw yX9_tapeNumber cX9_tapeNumber 3 none 1 := ⟨big_tab (List.mem_of_getElem? (i := 433) (by decide +kernel)) rfl, big_sel (q := (yX9_tapeNumber, 17)) (by decide +kernel), mw_initialized_RX9, big_tab (List.mem_of_getElem? (i := 434) (by decide +kernel)) rfl, ⟨by decide +kernel, by decide +kernel, by decide +kernel⟩⟩
theorem cV_X9_end : CVw yX9_end cX9_end 2 (some .int) 1 := ⟨big_tab (List.mem_of_getElem? (i := 436) (by decide +kernel)) rfl, big_tab (List.mem_of_getElem? (i := 437) (by decide +kernel)) rfl, mw_initialized_RX9, big_tab (List.mem_of_getElem? (i := 438) (by decide +kernel)) rfl, ⟨by decide +kernel, by decide +kernel, by decide +kernel⟩⟩
theorem cV_X9_drill : CVw yX9_drill cX9_drill 3 (some .int) 0 := ⟨big_tab (List.mem_of_getElem? (i := 440) (by decide +kernel)) rfl, big_tab (List.mem_of_getElem? (i := 441) (by decide +kernel)) rfl, mw_initialized_RX9, big_tab (List.mem_of_getElem? (i := 442) (by decide +kernel)) rfl, ⟨by decide +kernel, by decide +kernel, by decide +kernel⟩⟩
theorem cV_X9_fault : CVw yX9_fault cX9_fault 2 (some .int) 1 := ⟨big_tab (List.mem_of_getElem? (i := 748) (by decide +kernel)) rfl, big_tab (List.mem_of_getElem? (i := 749) (by decide +kernel)) rfl, mw_initialized_RX9, big_tab (List.mem_of_getElem? (i := 750) (by decide +kernel)) rfl, ⟨by decide +kernel, by decide +kernel, by decide +kernel⟩⟩
theorem cV_X9_does : CVw yX9_does cX9_does 2 (some .int) 1 := ⟨big_tab (List.mem_of_getElem? (i := 752) (by decide +kernel)) rfl, big_tab (List.mem_of_getElem? (i := 753) (by decide +kernel)) rfl, mw_initialized_RX9, big_tab (List.mem_of_getElem? (i := 754) (by decide +kernel)) rfl, ⟨by decide +kernel, by decide +kernel, by decide +kernel⟩⟩
theorem cV_X9_made : CVw yX9_made cX9_made 5 (some .int) 4 := ⟨big_tab (List.mem_of_getElem? (i := 767) (by decide +kernel)) rfl, big_tab (List.mem_of_getElem? (i := 768) (by decide +kernel)) rfl, mw_initialized_RX9, big_tab (List.mem_of_getElem? (i := 769) (by decide +kernel)) rfl, ⟨by decide +kernel, by decide +kernel, by decide +kernel⟩⟩
theorem cV_X9_run : CVw yX9_run cX9_run 2 (some .int) 1 := ⟨big_tab (List.mem_of_getElem? (i := 781) (by decide +kernel)) rfl, big_tab (List.mem_of_getElem? (i := 782) (by decide +kernel)) rfl, mw_initialized_RX9, big_tab (List.mem_of_getElem? (i := 783) (by decide +kernel)) rfl, ⟨by decide +kernel, by decide +kernel, by decide +kernel⟩⟩
theorem cV_X9_order : CVw yX9_order cX9_order 4 (some .int) 2 := ⟨big_tab (List.mem_of_getElem? (i := 814) (by decide +kernel)) rfl, big_tab (List.mem_of_getElem? (i := 815) (by decide +kernel)) rfl, mw_initialized_RX9, big_tab (List.mem_of_getElem? (i := 816) (by decide +kernel)) rfl, ⟨by decide +kernel, by decide +kernel, by decide +kernel⟩⟩
theorem cV_X9_undo : CVw yX9_undo cX9_undo 1 (some .boolean) 0 := ⟨big_tab (List.mem_of_getElem? (i := 819) (by decide +kernel)) rfl, big_tab (List.mem_of_getElem? (i := 820) (by decide +kernel)) rfl, mw_initialized_RX9, big_tab (List.mem_of_getElem? (i := 821) (by decide +kernel)) rfl, ⟨by decide +kernel, by decide +kernel, by decide +kernel⟩⟩
theorem cV_X9_redo : CVw yX9_redo cX9_redo 1 (some .boolean) 0 := ⟨big_tab (List.mem_of_getElem? (i := 827) (by decide +kernel)) rfl, big_tab (List.mem_of_getElem? (i := 828) (by decide +kernel)) rfl, mw_initialized_RX9, big_tab (List.mem_of_getElem? (i := 829) (by decide +kernel)) rfl, ⟨by decide +kernel, by decide +kernel, by decide +kernel⟩⟩
theorem cV_X9_worth : CVw yX9_worth cX9_worth 1 (some .int) 0 := ⟨big_tab (List.mem_of_getElem? (i := 835) (by decide +kernel)) rfl, big_tab (List.mem_of_getElem? (i := 836) (by decide +kernel)) rfl, mw_initialized_RX9, big_tab (List.mem_of_getElem? (i := 837) (by decide +kernel)) rfl, ⟨by decide +kernel, by decide +kernel, by decide +kernel⟩⟩
theorem cV_X9_round : CVw yX9_round cX9_round 2 (some .int) 1 := ⟨big_tab (List.mem_of_getElem? (i := 843) (by decide +kernel)) rfl, big_tab (List.mem_of_getElem? (i := 844) (by decide +kernel)) rfl, mw_initialized_RX9, big_tab (List.mem_of_getElem? (i := 845) (by decide +kernel)) rfl, ⟨by decide +kernel, by decide +kernel, by decide +kernel⟩⟩
theorem cV_X9_before : CVw yX9_before cX9_before 2 (some .long) 0 := ⟨big_tab (List.mem_of_getElem? (i := 868) (by decide +kernel)) rfl, big_tab (List.mem_of_getElem? (i := 869) (by decide +kernel)) rfl, mw_initialized_RX9, big_tab (List.mem_of_getElem? (i := 870) (by decide +kernel)) rfl, ⟨by decide +kernel, by decide +kernel, by decide +kernel⟩⟩
theorem cV_X9_orphan : CVw yX9_orphan cX9_orphan 2 (some .int) 1 := ⟨big_tab (List.mem_of_getElem? (i := 953) (by decide +kernel)) rfl, big_tab (List.mem_of_getElem? (i := 954) (by decide +kernel)) rfl, mw_initialized_RX9, big_tab (List.mem_of_getElem? (i := 955) (by decide +kernel)) rfl, ⟨by decide +kernel, by decide +kernel, by decide +kernel⟩⟩
theorem cV_X9_one : CVw yX9_one cX9_one 2 (some .int) 1 := ⟨big_tab (List.mem_of_getElem? (i := 1014) (by decide +kernel)) rfl, big_tab (List.mem_of_getElem? (i := 1015) (by decide +kernel)) rfl, mw_initialized_RX9, big_tab (List.mem_of_getElem? (i := 1016) (by decide +kernel)) rfl, ⟨by decide +kernel, by decide +kernel, by decide +kernel⟩⟩
theorem cV_X9_keeps : CVw yX9_keeps cX9_keeps 2 (some .int) 1 := ⟨big_tab (List.mem_of_getElem? (i := 1038) (by decide +kernel)) rfl, big_tab (List.mem_of_getElem? (i := 1039) (by decide +kernel)) rfl, mw_initialized_RX9, big_tab (List.mem_of_getElem? (i := 1040) (by decide +kernel)) rfl, ⟨by decide +kernel, by decide +kernel, by decide +kernel⟩⟩
theorem cV_X9_spread : CVw yX9_spread cX9_spread 8 (some .int) 3 := ⟨big_tab (List.mem_of_getElem? (i := 1055) (by decide +kernel)) rfl, big_tab (List.mem_of_getElem? (i := 1056) (by decide +kernel)) rfl, mw_initialized_RX9, big_tab (List.mem_of_getElem? (i := 1057) (by decide +kernel)) rfl, ⟨by decide +kernel, by decide +kernel, by decide +kernel⟩⟩
theorem cV_X9_glint : CVw yX9_glint cX9_glint 4 (some .int) 3 := ⟨big_tab (List.mem_of_getElem? (i := 1069) (by decide +kernel)) rfl, big_tab (List.mem_of_getElem? (i := 1070) (by decide +kernel)) rfl, mw_initialized_RX9, big_tab (List.mem_of_getElem? (i := 1071) (by decide +kernel)) rfl, ⟨by decide +kernel, by decide +kernel, by decide +kernel⟩⟩
theorem cV_X9_cracks : CVw yX9_cracks cX9_cracks 4 (some .int) 3 := ⟨big_tab (List.mem_of_getElem? (i := 1117) (by decide +kernel)) rfl, big_tab (List.mem_of_getElem? (i := 1118) (by decide +kernel)) rfl, mw_initialized_RX9, big_tab (List.mem_of_getElem? (i := 1119) (by decide +kernel)) rfl, ⟨by decide +kernel, by decide +kernel, by decide +kernel⟩⟩
theorem cV_X9_lies : CVw yX9_lies cX9_lies 2 (some .int) 1 := ⟨big_tab (List.mem_of_getElem? (i := 1135) (by decide +kernel)) rfl, big_tab (List.mem_of_getElem? (i := 1136) (by decide +kernel)) rfl, mw_initialized_RX9, big_tab (List.mem_of_getElem? (i := 1137) (by decide +kernel)) rfl, ⟨by decide +kernel, by decide +kernel, by decide +kernel⟩⟩
theorem cV_X9_sight : CVw yX9_sight cX9_sight 4 (some .int) 3 := ⟨big_tab (List.mem_of_getElem? (i := 1143) (by decide +kernel)) rfl, big_tab (List.mem_of_getElem? (i := 1144) (by decide +kernel)) rfl, mw_initialized_RX9, big_tab (List.mem_of_getElem? (i := 1145) (by decide +kernel)) rfl, ⟨by decide +kernel, by decide +kernel, by decide +kernel⟩⟩
theorem cV_X9_untell : CVw yX9_untell cX9_untell 2 (some .boolean) 1 := ⟨big_tab (List.mem_of_getElem? (i := 1151) (by decide +kernel)) rfl, big_tab (List.mem_of_getElem? (i := 1152) (by decide +kernel)) rfl, mw_initialized_RX9, big_tab (List.mem_of_getElem? (i := 1153) (by decide +kernel)) rfl, ⟨by decide +kernel, by decide +kernel, by decide +kernel⟩⟩
theorem cV_X9_later : CVw yX9_later cX9_later 2 (some .int) 1 := ⟨big_tab (List.mem_of_getElem? (i := 1159) (by decide +kernel)) rfl, big_tab (List.mem_of_getElem? (i := 1160) (by decide +kernel)) rfl, mw_initialized_RX9, big_tab (List.mem_of_getElem? (i := 1161) (by decide +kernel)) rfl, ⟨by decide +kernel, by decide +kernel, by decide +kernel⟩⟩
theorem cV_X9_unsure : CVw yX9_unsure cX9_unsure 2 (some .int) 1 := ⟨big_tab (List.mem_of_getElem? (i := 1163) (by decide +kernel)) rfl, big_tab (List.mem_of_getElem? (i := 1164) (by decide +kernel)) rfl, mw_initialized_RX9, big_tab (List.mem_of_getElem? (i := 1165) (by decide +kernel)) rfl, ⟨by decide +kernel, by decide +kernel, by decide +kernel⟩⟩
theorem cV_X9_fits : CVw yX9_fits cX9_fits 2 (some .int) 1 := ⟨big_tab (List.mem_of_getElem? (i := 1177) (by decide +kernel)) rfl, big_tab (List.mem_of_getElem? (i := 1178) (by decide +kernel)) rfl, mw_initialized_RX9, big_tab (List.mem_of_getElem? (i := 1179) (by decide +kernel)) rfl, ⟨by decide +kernel, by decide +kernel, by decide +kernel⟩⟩
theorem cV_X9_sure : CVw yX9_sure cX9_sure 5 (some .int) 2 := ⟨big_tab (List.mem_of_getElem? (i := 1234) (by decide +kernel)) rfl, big_tab (List.mem_of_getElem? (i := 1235) (by decide +kernel)) rfl, mw_initialized_RX9, big_tab (List.mem_of_getElem? (i := 1236) (by decide +kernel)) rfl, ⟨by decide +kernel, by decide +kernel, by decide +kernel⟩⟩
theorem cV_X9_wrong : CVw yX9_wrong cX9_wrong 3 (some .int) 2 := ⟨big_tab (List.mem_of_getElem? (i := 1243) (by decide +kernel)) rfl, big_tab (List.mem_of_getElem? (i := 1244) (by decide +kernel)) rfl, mw_initialized_RX9, big_tab (List.mem_of_getElem? (i := 1245) (by decide +kernel)) rfl, ⟨by decide +kernel, by decide +kernel, by decide +kernel⟩⟩
theorem cV_X9_image : CVw yX9_image cX9_image 2 (some .int) 1 := ⟨big_tab (List.mem_of_getElem? (i := 1260) (by decide +kernel)) rfl, big_tab (List.mem_of_getElem? (i := 1261) (by decide +kernel)) rfl, mw_initialized_RX9, big_tab (List.mem_of_getElem? (i := 1262) (by decide +kernel)) rfl, ⟨by decide +kernel, by decide +kernel, by decide +kernel⟩⟩
theorem cV_X9_back : CVw yX9_back cX9_back 2 (some .int) 1 := ⟨big_tab (List.mem_of_getElem? (i := 1264) (by decide +kernel)) rfl, big_tab (List.mem_of_getElem? (i := 1265) (by decide +kernel)) rfl, mw_initialized_RX9, big_tab (List.mem_of_getElem? (i := 1266) (by decide +kernel)) rfl, ⟨by decide +kernel, by decide +kernel, by decide +kernel⟩⟩
theorem cV_X9_about : CVw yX9_about cX9_about 2 (some .int) 1 := ⟨big_tab (List.mem_of_getElem? (i := 1268) (by decide +kernel)) rfl, big_tab (List.mem_of_getElem? (i := 1269) (by decide +kernel)) rfl, mw_initialized_RX9, big_tab (List.mem_of_getElem? (i := 1270) (by decide +kernel)) rfl, ⟨by decide +kernel, by decide +kernel, by decide +kernel⟩⟩
theorem cS_X9_view : CSw yX9_view cX9_view 3 (some .int) 3 := ⟨big_tab (List.mem_of_getElem? (i := 720) (by decide +kernel)) rfl, mw_initialized_RX9, big_tab (List.mem_of_getElem? (i := 721) (by decide +kernel)) rfl, ⟨by decide +kernel, by decide +kernel, by decide +kernel⟩⟩
theorem cS_X9_cell : CSw yX9_cell cX9_cell 3 (some .int) 2 := ⟨big_tab (List.mem_of_getElem? (i := 764) (by decide +kernel)) rfl, mw_initialized_RX9, big_tab (List.mem_of_getElem? (i := 765) (by decide +kernel)) rfl, ⟨by decide +kernel, by decide +kernel, by decide +kernel⟩⟩
theorem cS_X9_with : CSw yX9_with cX9_with 5 (some .long) 3 := ⟨big_tab (List.mem_of_getElem? (i := 671) (by decide +kernel)) rfl, mw_initialized_RX9, big_tab (List.mem_of_getElem? (i := 672) (by decide +kernel)) rfl, ⟨by decide +kernel, by decide +kernel, by decide +kernel⟩⟩
theorem cS_X9_differing : CSw yX9_differing cX9_differing 6 (some .int) 2 := ⟨big_tab (List.mem_of_getElem? (i := 1059) (by decide +kernel)) rfl, mw_initialized_RX9, big_tab (List.mem_of_getElem? (i := 1060) (by decide +kernel)) rfl, ⟨by decide +kernel, by decide +kernel, by decide +kernel⟩⟩
theorem cI_X10_init : CIw yX10_init cX10_init 2 0 := ⟨big_tab (List.mem_of_getElem? (i := 1294) (by decide +kernel)) rfl, mw_initialized_RX10, big_tab (List.mem_of_getElem? (i := 1295) (by decide +kernel)) rfl, rfl, ⟨by decide +kernel, by decide +kernel, by decide +kernel⟩⟩
theorem cV_X10_sign : CVw yX10_sign cX10_sign 2 (some .int) 1 := ⟨big_tab (List.mem_of_getElem? (i := 1566) (by decide +kernel)) rfl, big_sel (q := (yX10_sign, 80)) (by decide +kernel), mw_initialized_RX10, big_tab (List.mem_of_getElem? (i := 1567) (by decide +kernel)) rfl, ⟨by decide +kernel, by decide +kernel, by decide +kernel⟩⟩
theorem cS_X10_isLetter : CSw yX10_isLetter cX10_isLetter 1 (some .boolean) 1 := ⟨big_tab (List.mem_of_getElem? (i := 1569) (by decide +kernel)) rfl, mw_initialized_RX10, big_tab (List.mem_of_getElem? (i := 1570) (by decide +kernel)) rfl, ⟨by decide +kernel, by decide +kernel, by decide +kernel⟩⟩
theorem cS_X10_isDigit : CSw yX10_isDigit cX10_isDigit 1 (some .boolean) 1 := ⟨big_tab (List.mem_of_getElem? (i := 1593) (by decide +kernel)) rfl, mw_initialized_RX10, big_tab (List.mem_of_getElem? (i := 1594) (by decide +kernel)) rfl, ⟨by decide +kernel, by decide +kernel, by decide +kernel⟩⟩
theorem cV_X10_fails : CVw yX10_fails cX10_fails 3 none 2 := ⟨big_tab (List.mem_of_getElem? (i := 1620) (by decide +kernel)) rfl, big_sel (q := (yX10_fails, 80)) (by decide +kernel), mw_initialized_RX10, big_tab (List.mem_of_getElem? (i := 1621) (by decide +kernel)) rfl, ⟨by decide +kernel, by decide +kernel, by decide +kernel⟩⟩
theorem cV_X10_isGood : CVw yX10_isGood cX10_isGood 1 (some .boolean) 0 := ⟨big_tab (List.mem_of_getElem? (i := 1600) (by decide +kernel)) rfl, big_sel (q := (yX10_isGood, 80)) (by decide +kernel), mw_initialized_RX10, big_tab (List.mem_of_getElem? (i := 1601) (by decide +kernel)) rfl, ⟨by decide +kernel, by decide +kernel, by decide +kernel⟩⟩
theorem cS_X10_isKept : CSw yX10_isKept cX10_isKept 3 (some .boolean) 1 := ⟨big_tab (List.mem_of_getElem? (i := 1572) (by decide +kernel)) rfl, mw_initialized_RX10, big_tab (List.mem_of_getElem? (i := 1573) (by decide +kernel)) rfl, ⟨by decide +kernel, by decide +kernel, by decide +kernel⟩⟩
theorem cS_X10_isSign : CSw yX10_isSign cX10_isSign 1 (some .boolean) 1 := ⟨big_tab (List.mem_of_getElem? (i := 1596) (by decide +kernel)) rfl, mw_initialized_RX10, big_tab (List.mem_of_getElem? (i := 1597) (by decide +kernel)) rfl, ⟨by decide +kernel, by decide +kernel, by decide +kernel⟩⟩
theorem cV_X10_goOn : CVw yX10_goOn cX10_goOn 3 none 0 := ⟨big_tab (List.mem_of_getElem? (i := 1562) (by decide +kernel)) rfl, big_sel (q := (yX10_goOn, 80)) (by decide +kernel), mw_initialized_RX10, big_tab (List.mem_of_getElem? (i := 1563) (by decide +kernel)) rfl, ⟨by decide +kernel, by decide +kernel, by decide +kernel⟩⟩
theorem cV_X10_isSignHere : CVw yX10_isSignHere cX10_isSignHere 2 (some .boolean) 1 := ⟨big_tab (List.mem_of_getElem? (i := 1648) (by decide +kernel)) rfl, big_sel (q := (yX10_isSignHere, 80)) (by decide +kernel), mw_initialized_RX10, big_tab (List.mem_of_getElem? (i := 1649) (by decide +kernel)) rfl, ⟨by decide +kernel, by decide +kernel, by decide +kernel⟩⟩
theorem cV_X10_isWord : CVw yX10_isWord cX10_isWord 3 (some .boolean) 1 := ⟨big_tab (List.mem_of_getElem? (i := 1612) (by decide +kernel)) rfl, big_sel (q := (yX10_isWord, 80)) (by decide +kernel), mw_initialized_RX10, big_tab (List.mem_of_getElem? (i := 1613) (by decide +kernel)) rfl, ⟨by decide +kernel, by decide +kernel, by decide +kernel⟩⟩
theorem cV_X10_misplaced : CVw yX10_misplaced cX10_misplaced 1 none 0 := ⟨big_tab (List.mem_of_getElem? (i := 1616) (by decide +kernel)) rfl, big_sel (q := (yX10_misplaced, 80)) (by decide +kernel), mw_initialized_RX10, big_tab (List.mem_of_getElem? (i := 1617) (by decide +kernel)) rfl, ⟨by decide +kernel, by decide +kernel, by decide +kernel⟩⟩
theorem cV_X10_must : CVw yX10_must cX10_must 2 none 1 := ⟨big_tab (List.mem_of_getElem? (i := 1672) (by decide +kernel)) rfl, big_sel (q := (yX10_must, 80)) (by decide +kernel), mw_initialized_RX10, big_tab (List.mem_of_getElem? (i := 1673) (by decide +kernel)) rfl, ⟨by decide +kernel, by decide +kernel, by decide +kernel⟩⟩
theorem cV_X10_numeral : CVw yX10_numeral cX10_numeral 4 (some .int) 2 := ⟨big_tab (List.mem_of_getElem? (i := 1624) (by decide +kernel)) rfl, big_sel (q := (yX10_numeral, 80)) (by decide +kernel), mw_initialized_RX10, big_tab (List.mem_of_getElem? (i := 1625) (by decide +kernel)) rfl, ⟨by decide +kernel, by decide +kernel, by decide +kernel⟩⟩
theorem cV_X10_clearBank : CVw yX10_clearBank cX10_clearBank 2 none 0 := ⟨big_tab (List.mem_of_getElem? (i := 1300) (by decide +kernel)) rfl, big_sel (q := (yX10_clearBank, 80)) (by decide +kernel), mw_initialized_RX10, big_tab (List.mem_of_getElem? (i := 1301) (by decide +kernel)) rfl, ⟨by decide +kernel, by decide +kernel, by decide +kernel⟩⟩
theorem cV_X10_drill : CVw yX10_drill cX10_drill 2 (some .int) 0 := ⟨big_tab (List.mem_of_getElem? (i := 1557) (by decide +kernel)) rfl, big_tab (List.mem_of_getElem? (i := 1558) (by decide +kernel)) rfl, mw_initialized_RX10, big_tab (List.mem_of_getElem? (i := 1559) (by decide +kernel)) rfl, ⟨by decide +kernel, by decide +kernel, by decide +kernel⟩⟩
theorem cV_X10_isFull : CVw yX10_isFull cX10_isFull 1 (some .boolean) 0 := ⟨big_tab (List.mem_of_getElem? (i := 1608) (by decide +kernel)) rfl, big_sel (q := (yX10_isFull, 80)) (by decide +kernel), mw_initialized_RX10, big_tab (List.mem_of_getElem? (i := 1609) (by decide +kernel)) rfl, ⟨by decide +kernel, by decide +kernel, by decide +kernel⟩⟩
theorem cV_X10_readLine : CVw yX10_readLine cX10_readLine 4 none 0 := ⟨big_tab (List.mem_of_getElem? (i := 1604) (by decide +kernel)) rfl, big_sel (q := (yX10_readLine, 80)) (by decide +kernel), mw_initialized_RX10, big_tab (List.mem_of_getElem? (i := 1605) (by decide +kernel)) rfl, ⟨by decide +kernel, by decide +kernel, by decide +kernel⟩⟩
theorem cV_X10_ruleHere : CVw yX10_ruleHere cX10_ruleHere 2 (some .int) 0 := ⟨big_tab (List.mem_of_getElem? (i := 1632) (by decide +kernel)) rfl, big_sel (q := (yX10_ruleHere, 80)) (by decide +kernel), mw_initialized_RX10, big_tab (List.mem_of_getElem? (i := 1633) (by decide +kernel)) rfl, ⟨by decide +kernel, by decide +kernel, by decide +kernel⟩⟩
theorem cV_X10_readRule : CVw yX10_readRule cX10_readRule 2 none 0 := ⟨big_tab (List.mem_of_getElem? (i := 1628) (by decide +kernel)) rfl, big_sel (q := (yX10_readRule, 80)) (by decide +kernel), mw_initialized_RX10, big_tab (List.mem_of_getElem? (i := 1629) (by decide +kernel)) rfl, ⟨by decide +kernel, by decide +kernel, by decide +kernel⟩⟩
theorem cV_X10_readMan : CVw yX10_readMan cX10_readMan 4 none 0 := ⟨big_tab (List.mem_of_getElem? (i := 1676) (by decide +kernel)) rfl, big_sel (q := (yX10_readMan, 80)) (by decide +kernel), mw_initialized_RX10, big_tab (List.mem_of_getElem? (i := 1677) (by decide +kernel)) rfl, ⟨by decide +kernel, by decide +kernel, by decide +kernel⟩⟩
theorem cV_X10_readBy : CVw yX10_readBy cX10_readBy 2 none 1 := ⟨big_tab (List.mem_of_getElem? (i := 1680) (by decide +kernel)) rfl, big_sel (q := (yX10_readBy, 80)) (by decide +kernel), mw_initialized_RX10, big_tab (List.mem_of_getElem? (i := 1681) (by decide +kernel)) rfl, ⟨by decide +kernel, by decide +kernel, by decide +kernel⟩⟩
theorem cV_X10_flag : CVw yX10_flag cX10_flag 4 (some .boolean) 1 := ⟨big_tab (List.mem_of_getElem? (i := 1684) (by decide +kernel)) rfl, big_sel (q := (yX10_flag, 80)) (by decide +kernel), mw_initialized_RX10, big_tab (List.mem_of_getElem? (i := 1685) (by decide +kernel)) rfl, ⟨by decide +kernel, by decide +kernel, by decide +kernel⟩⟩
theorem cV_X10_emit : CVw yX10_emit cX10_emit 3 none 2 := ⟨big_tab (List.mem_of_getElem? (i := 1656) (by decide +kernel)) rfl, big_sel (q := (yX10_emit, 80)) (by decide +kernel), mw_initialized_RX10, big_tab (List.mem_of_getElem? (i := 1657) (by decide +kernel)) rfl, ⟨by decide +kernel, by decide +kernel, by decide +kernel⟩⟩
theorem cV_X10_pushE : CVw yX10_pushE cX10_pushE 3 none 2 := ⟨big_tab (List.mem_of_getElem? (i := 1640) (by decide +kernel)) rfl, big_sel (q := (yX10_pushE, 80)) (by decide +kernel), mw_initialized_RX10, big_tab (List.mem_of_getElem? (i := 1641) (by decide +kernel)) rfl, ⟨by decide +kernel, by decide +kernel, by decide +kernel⟩⟩
theorem cV_X10_e : CVw yX10_e cX10_e 2 none 0 := ⟨big_tab (List.mem_of_getElem? (i := 1636) (by decide +kernel)) rfl, big_sel (q := (yX10_e, 80)) (by decide +kernel), mw_initialized_RX10, big_tab (List.mem_of_getElem? (i := 1637) (by decide +kernel)) rfl, ⟨by decide +kernel, by decide +kernel, by decide +kernel⟩⟩
theorem cV_X10_wordHere : CVw yX10_wordHere cX10_wordHere 1 (some .int) 0 := ⟨big_tab (List.mem_of_getElem? (i := 1652) (by decide +kernel)) rfl, big_sel (q := (yX10_wordHere, 80)) (by decide +kernel), mw_initialized_RX10, big_tab (List.mem_of_getElem? (i := 1653) (by decide +kernel)) rfl, ⟨by decide +kernel, by decide +kernel, by decide +kernel⟩⟩
theorem cV_X10_unit : CVw yX10_unit cX10_unit 7 (some .boolean) 0 := ⟨big_tab (List.mem_of_getElem? (i := 1644) (by decide +kernel)) rfl, big_sel (q := (yX10_unit, 80)) (by decide +kernel), mw_initialized_RX10, big_tab (List.mem_of_getElem? (i := 1645) (by decide +kernel)) rfl, ⟨by decide +kernel, by decide +kernel, by decide +kernel⟩⟩
theorem cV_X10_rankHere : CVw yX10_rankHere cX10_rankHere 1 (some .int) 0 := ⟨big_tab (List.mem_of_getElem? (i := 1664) (by decide +kernel)) rfl, big_sel (q := (yX10_rankHere, 80)) (by decide +kernel), mw_initialized_RX10, big_tab (List.mem_of_getElem? (i := 1665) (by decide +kernel)) rfl, ⟨by decide +kernel, by decide +kernel, by decide +kernel⟩⟩
theorem cV_X10_isCompared : CVw yX10_isCompared cX10_isCompared 2 (some .boolean) 0 := ⟨big_tab (List.mem_of_getElem? (i := 1668) (by decide +kernel)) rfl, big_sel (q := (yX10_isCompared, 80)) (by decide +kernel), mw_initialized_RX10, big_tab (List.mem_of_getElem? (i := 1669) (by decide +kernel)) rfl, ⟨by decide +kernel, by decide +kernel, by decide +kernel⟩⟩
theorem cV_X10_behindUnit : CVw yX10_behindUnit cX10_behindUnit 2 (some .boolean) 0 := ⟨big_tab (List.mem_of_getElem? (i := 1660) (by decide +kernel)) rfl, big_sel (q := (yX10_behindUnit, 80)) (by decide +kernel), mw_initialized_RX10, big_tab (List.mem_of_getElem? (i := 1661) (by decide +kernel)) rfl, ⟨by decide +kernel, by decide +kernel, by decide +kernel⟩⟩
theorem cS_X10_two : CSw yX10_two cX10_two 3 (some .int) 3 := ⟨big_tab (List.mem_of_getElem? (i := 1695) (by decide +kernel)) rfl, mw_initialized_RX10, big_tab (List.mem_of_getElem? (i := 1696) (by decide +kernel)) rfl, ⟨by decide +kernel, by decide +kernel, by decide +kernel⟩⟩
theorem cV_X10_comes : CVw yX10_comes cX10_comes 8 (some .int) 4 := ⟨big_tab (List.mem_of_getElem? (i := 1692) (by decide +kernel)) rfl, big_sel (q := (yX10_comes, 80)) (by decide +kernel), mw_initialized_RX10, big_tab (List.mem_of_getElem? (i := 1693) (by decide +kernel)) rfl, ⟨by decide +kernel, by decide +kernel, by decide +kernel⟩⟩
theorem cV_X10_layTables : CVw yX10_layTables cX10_layTables 6 none 0 := ⟨big_tab (List.mem_of_getElem? (i := 1688) (by decide +kernel)) rfl, big_sel (q := (yX10_layTables, 80)) (by decide +kernel), mw_initialized_RX10, big_tab (List.mem_of_getElem? (i := 1689) (by decide +kernel)) rfl, ⟨by decide +kernel, by decide +kernel, by decide +kernel⟩⟩
theorem cV_X10_makes : CVw yX10_makes cX10_makes 5 (some .int) 4 := ⟨big_tab (List.mem_of_getElem? (i := 1730) (by decide +kernel)) rfl, big_sel (q := (yX10_makes, 80)) (by decide +kernel), mw_initialized_RX10, big_tab (List.mem_of_getElem? (i := 1731) (by decide +kernel)) rfl, ⟨by decide +kernel, by decide +kernel, by decide +kernel⟩⟩
theorem cV_X10_fault : CVw yX10_fault cX10_fault 2 (some .int) 1 := ⟨big_tab (List.mem_of_getElem? (i := 1698) (by decide +kernel)) rfl, big_tab (List.mem_of_getElem? (i := 1699) (by decide +kernel)) rfl, mw_initialized_RX10, big_tab (List.mem_of_getElem? (i := 1700) (by decide +kernel)) rfl, ⟨by decide +kernel, by decide +kernel, by decide +kernel⟩⟩
theorem cS_X10_isIn : CSw yX10_isIn cX10_isIn 3 (some .boolean) 3 := ⟨big_tab (List.mem_of_getElem? (i := 1714) (by decide +kernel)) rfl, mw_initialized_RX10, big_tab (List.mem_of_getElem? (i := 1715) (by decide +kernel)) rfl, ⟨by decide +kernel, by decide +kernel, by decide +kernel⟩⟩
theorem cS_X10_bitsOf : CSw yX10_bitsOf cX10_bitsOf 3 (some .int) 1 := ⟨big_tab (List.mem_of_getElem? (i := 1926) (by decide +kernel)) rfl, mw_initialized_RX10, big_tab (List.mem_of_getElem? (i := 1927) (by decide +kernel)) rfl, ⟨by decide +kernel, by decide +kernel, by decide +kernel⟩⟩
theorem cV_X10_manyOf : CVw yX10_manyOf cX10_manyOf 1 (some .int) 0 := ⟨big_tab (List.mem_of_getElem? (i := 1711) (by decide +kernel)) rfl, big_sel (q := (yX10_manyOf, 80)) (by decide +kernel), mw_initialized_RX10, big_tab (List.mem_of_getElem? (i := 1712) (by decide +kernel)) rfl, ⟨by decide +kernel, by decide +kernel, by decide +kernel⟩⟩
theorem cV_X10_isMan : CVw yX10_isMan cX10_isMan 2 (some .boolean) 1 := ⟨big_tab (List.mem_of_getElem? (i := 1707) (by decide +kernel)) rfl, big_sel (q := (yX10_isMan, 80)) (by decide +kernel), mw_initialized_RX10, big_tab (List.mem_of_getElem? (i := 1708) (by decide +kernel)) rfl, ⟨by decide +kernel, by decide +kernel, by decide +kernel⟩⟩
theorem cV_X10_isMove : CVw yX10_isMove cX10_isMove 2 (some .boolean) 1 := ⟨big_tab (List.mem_of_getElem? (i := 1726) (by decide +kernel)) rfl, big_sel (q := (yX10_isMove, 80)) (by decide +kernel), mw_initialized_RX10, big_tab (List.mem_of_getElem? (i := 1727) (by decide +kernel)) rfl, ⟨by decide +kernel, by decide +kernel, by decide +kernel⟩⟩
theorem cV_X10_isRule : CVw yX10_isRule cX10_isRule 2 (some .boolean) 1 := ⟨big_tab (List.mem_of_getElem? (i := 1722) (by decide +kernel)) rfl, big_sel (q := (yX10_isRule, 80)) (by decide +kernel), mw_initialized_RX10, big_tab (List.mem_of_getElem? (i := 1723) (by decide +kernel)) rfl, ⟨by decide +kernel, by decide +kernel, by decide +kernel⟩⟩
theorem cV_X10_begin : CVw yX10_begin cX10_begin 1 none 0 := ⟨big_tab (List.mem_of_getElem? (i := 1304) (by decide +kernel)) rfl, big_sel (q := (yX10_begin, 80)) (by decide +kernel), mw_initialized_RX10, big_tab (List.mem_of_getElem? (i := 1305) (by decide +kernel)) rfl, ⟨by decide +kernel, by decide +kernel, by decide +kernel⟩⟩
theorem cV_X10_layFirst : CVw yX10_layFirst cX10_layFirst 2 none 0 := ⟨big_tab (List.mem_of_getElem? (i := 1308) (by decide +kernel)) rfl, big_sel (q := (yX10_layFirst, 80)) (by decide +kernel), mw_initialized_RX10, big_tab (List.mem_of_getElem? (i := 1309) (by decide +kernel)) rfl, ⟨by decide +kernel, by decide +kernel, by decide +kernel⟩⟩
theorem cV_X10_layNow : CVw yX10_layNow cX10_layNow 2 none 0 := ⟨big_tab (List.mem_of_getElem? (i := 1743) (by decide +kernel)) rfl, big_sel (q := (yX10_layNow, 80)) (by decide +kernel), mw_initialized_RX10, big_tab (List.mem_of_getElem? (i := 1744) (by decide +kernel)) rfl, ⟨by decide +kernel, by decide +kernel, by decide +kernel⟩⟩
theorem cV_X10_keepNow : CVw yX10_keepNow cX10_keepNow 2 none 0 := ⟨big_tab (List.mem_of_getElem? (i := 1312) (by decide +kernel)) rfl, big_sel (q := (yX10_keepNow, 80)) (by decide +kernel), mw_initialized_RX10, big_tab (List.mem_of_getElem? (i := 1313) (by decide +kernel)) rfl, ⟨by decide +kernel, by decide +kernel, by decide +kernel⟩⟩
theorem cV_X10_windowOf : CVw yX10_windowOf cX10_windowOf 2 (some .int) 1 := ⟨big_tab (List.mem_of_getElem? (i := 1771) (by decide +kernel)) rfl, big_sel (q := (yX10_windowOf, 80)) (by decide +kernel), mw_initialized_RX10, big_tab (List.mem_of_getElem? (i := 1772) (by decide +kernel)) rfl, ⟨by decide +kernel, by decide +kernel, by decide +kernel⟩⟩
theorem cV_X10_stays : CVw yX10_stays cX10_stays 2 (some .boolean) 1 := ⟨big_tab (List.mem_of_getElem? (i := 1767) (by decide +kernel)) rfl, big_sel (q := (yX10_stays, 80)) (by decide +kernel), mw_initialized_RX10, big_tab (List.mem_of_getElem? (i := 1768) (by decide +kernel)) rfl, ⟨by decide +kernel, by decide +kernel, by decide +kernel⟩⟩
theorem cV_X10_after : CVw yX10_after cX10_after 8 (some .int) 4 := ⟨big_tab (List.mem_of_getElem? (i := 1763) (by decide +kernel)) rfl, big_sel (q := (yX10_after, 80)) (by decide +kernel), mw_initialized_RX10, big_tab (List.mem_of_getElem? (i := 1764) (by decide +kernel)) rfl, ⟨by decide +kernel, by decide +kernel, by decide +kernel⟩⟩
theorem cV_X10_aheadOf : CVw yX10_aheadOf cX10_aheadOf 2 (some .int) 1 := ⟨big_tab (List.mem_of_getElem? (i := 1755) (by decide +kernel)) rfl, big_sel (q := (yX10_aheadOf, 80)) (by decide +kernel), mw_initialized_RX10, big_tab (List.mem_of_getElem? (i := 1756) (by decide +kernel)) rfl, ⟨by decide +kernel, by decide +kernel, by decide +kernel⟩⟩
theorem cV_X10_behindOf : CVw yX10_behindOf cX10_behindOf 2 (some .int) 1 := ⟨big_tab (List.mem_of_getElem? (i := 1759) (by decide +kernel)) rfl, big_sel (q := (yX10_behindOf, 80)) (by decide +kernel), mw_initialized_RX10, big_tab (List.mem_of_getElem? (i := 1760) (by decide +kernel)) rfl, ⟨by decide +kernel, by decide +kernel, by decide +kernel⟩⟩
theorem cV_X10_beat : CVw yX10_beat cX10_beat 2 none 0 := ⟨big_tab (List.mem_of_getElem? (i := 1751) (by decide +kernel)) rfl, big_sel (q := (yX10_beat, 80)) (by decide +kernel), mw_initialized_RX10, big_tab (List.mem_of_getElem? (i := 1752) (by decide +kernel)) rfl, ⟨by decide +kernel, by decide +kernel, by decide +kernel⟩⟩
theorem cV_X10_beatTimes : CVw yX10_beatTimes cX10_beatTimes 3 none 1 := ⟨big_tab (List.mem_of_getElem? (i := 1747) (by decide +kernel)) rfl, big_sel (q := (yX10_beatTimes, 80)) (by decide +kernel), mw_initialized_RX10, big_tab (List.mem_of_getElem? (i := 1748) (by decide +kernel)) rfl, ⟨by decide +kernel, by decide +kernel, by decide +kernel⟩⟩
theorem cV_X10_does : CVw yX10_does cX10_does 2 (some .int) 1 := ⟨big_tab (List.mem_of_getElem? (i := 1702) (by decide +kernel)) rfl, big_tab (List.mem_of_getElem? (i := 1703) (by decide +kernel)) rfl, mw_initialized_RX10, big_tab (List.mem_of_getElem? (i := 1704) (by decide +kernel)) rfl, ⟨by decide +kernel, by decide +kernel, by decide +kernel⟩⟩
theorem cV_X10_made : CVw yX10_made cX10_made 5 (some .int) 4 := ⟨big_tab (List.mem_of_getElem? (i := 1717) (by decide +kernel)) rfl, big_tab (List.mem_of_getElem? (i := 1718) (by decide +kernel)) rfl, mw_initialized_RX10, big_tab (List.mem_of_getElem? (i := 1719) (by decide +kernel)) rfl, ⟨by decide +kernel, by decide +kernel, by decide +kernel⟩⟩
theorem cV_X10_keepAct : CVw yX10_keepAct cX10_keepAct 2 none 0 := ⟨big_tab (List.mem_of_getElem? (i := 1739) (by decide +kernel)) rfl, big_sel (q := (yX10_keepAct, 80)) (by decide +kernel), mw_initialized_RX10, big_tab (List.mem_of_getElem? (i := 1740) (by decide +kernel)) rfl, ⟨by decide +kernel, by decide +kernel, by decide +kernel⟩⟩
theorem cV_X10_exchange : CVw yX10_exchange cX10_exchange 4 none 0 := ⟨big_tab (List.mem_of_getElem? (i := 1783) (by decide +kernel)) rfl, big_sel (q := (yX10_exchange, 80)) (by decide +kernel), mw_initialized_RX10, big_tab (List.mem_of_getElem? (i := 1784) (by decide +kernel)) rfl, ⟨by decide +kernel, by decide +kernel, by decide +kernel⟩⟩
theorem cV_X10_run : CVw yX10_run cX10_run 2 (some .int) 1 := ⟨big_tab (List.mem_of_getElem? (i := 1733) (by decide +kernel)) rfl, big_tab (List.mem_of_getElem? (i := 1734) (by decide +kernel)) rfl, mw_initialized_RX10, big_tab (List.mem_of_getElem? (i := 1735) (by decide +kernel)) rfl, ⟨by decide +kernel, by decide +kernel, by decide +kernel⟩⟩
theorem cV_X10_order : CVw yX10_order cX10_order 4 (some .int) 2 := ⟨big_tab (List.mem_of_getElem? (i := 1774) (by decide +kernel)) rfl, big_tab (List.mem_of_getElem? (i := 1775) (by decide +kernel)) rfl, mw_initialized_RX10, big_tab (List.mem_of_getElem? (i := 1776) (by decide +kernel)) rfl, ⟨by decide +kernel, by decide +kernel, by decide +kernel⟩⟩
theorem cV_X10_undo : CVw yX10_undo cX10_undo 1 (some .boolean) 0 := ⟨big_tab (List.mem_of_getElem? (i := 1778) (by decide +kernel)) rfl, big_tab (List.mem_of_getElem? (i := 1779) (by decide +kernel)) rfl, mw_initialized_RX10, big_tab (List.mem_of_getElem? (i := 1780) (by decide +kernel)) rfl, ⟨by decide +kernel, by decide +kernel, by decide +kernel⟩⟩
theorem cV_X10_redo : CVw yX10_redo cX10_redo 1 (some .boolean) 0 := ⟨big_tab (List.mem_of_getElem? (i := 1786) (by decide +kernel)) rfl, big_tab (List.mem_of_getElem? (i := 1787) (by decide +kernel)) rfl, mw_initialized_RX10, big_tab (List.mem_of_getElem? (i := 1788) (by decide +kernel)) rfl, ⟨by decide +kernel, by decide +kernel, by decide +kernel⟩⟩
theorem cV_X10_worth : CVw yX10_worth cX10_worth 3 (some .int) 0 := ⟨big_tab (List.mem_of_getElem? (i := 1790) (by decide +kernel)) rfl, big_tab (List.mem_of_getElem? (i := 1791) (by decide +kernel)) rfl, mw_initialized_RX10, big_tab (List.mem_of_getElem? (i := 1792) (by decide +kernel)) rfl, ⟨by decide +kernel, by decide +kernel, by decide +kernel⟩⟩
theorem cV_X10_rowNumber : CVw yX10_rowNumber cX10_rowNumber 4 (some .long) 0 := ⟨big_tab (List.mem_of_getElem? (i := 1803) (by decide +kernel)) rfl, big_sel (q := (yX10_rowNumber, 80)) (by decide +kernel), mw_initialized_RX10, big_tab (List.mem_of_getElem? (i := 1804) (by decide +kernel)) rfl, ⟨by decide +kernel, by decide +kernel, by decide +kernel⟩⟩
theorem cV_X10_layRound : CVw yX10_layRound cX10_layRound 3 (some .boolean) 0 := ⟨big_tab (List.mem_of_getElem? (i := 1799) (by decide +kernel)) rfl, big_sel (q := (yX10_layRound, 80)) (by decide +kernel), mw_initialized_RX10, big_tab (List.mem_of_getElem? (i := 1800) (by decide +kernel)) rfl, ⟨by decide +kernel, by decide +kernel, by decide +kernel⟩⟩
theorem cV_X10_round : CVw yX10_round cX10_round 2 (some .int) 1 := ⟨big_tab (List.mem_of_getElem? (i := 1794) (by decide +kernel)) rfl, big_tab (List.mem_of_getElem? (i := 1795) (by decide +kernel)) rfl, mw_initialized_RX10, big_tab (List.mem_of_getElem? (i := 1796) (by decide +kernel)) rfl, ⟨by decide +kernel, by decide +kernel, by decide +kernel⟩⟩
theorem cV_X10_mayDo : CVw yX10_mayDo cX10_mayDo 3 (some .boolean) 2 := ⟨big_tab (List.mem_of_getElem? (i := 1815) (by decide +kernel)) rfl, big_sel (q := (yX10_mayDo, 80)) (by decide +kernel), mw_initialized_RX10, big_tab (List.mem_of_getElem? (i := 1816) (by decide +kernel)) rfl, ⟨by decide +kernel, by decide +kernel, by decide +kernel⟩⟩
theorem cS_X10_atMost : CSw yX10_atMost cX10_atMost 2 (some .long) 1 := ⟨big_tab (List.mem_of_getElem? (i := 1822) (by decide +kernel)) rfl, mw_initialized_RX10, big_tab (List.mem_of_getElem? (i := 1823) (by decide +kernel)) rfl, ⟨by decide +kernel, by decide +kernel, by decide +kernel⟩⟩
theorem cV_X10_countAhead : CVw yX10_countAhead cX10_countAhead 6 (some .long) 0 := ⟨big_tab (List.mem_of_getElem? (i := 1811) (by decide +kernel)) rfl, big_sel (q := (yX10_countAhead, 80)) (by decide +kernel), mw_initialized_RX10, big_tab (List.mem_of_getElem? (i := 1812) (by decide +kernel)) rfl, ⟨by decide +kernel, by decide +kernel, by decide +kernel⟩⟩
theorem cV_X10_countFrom : CVw yX10_countFrom cX10_countFrom 10 (some .long) 2 := ⟨big_tab (List.mem_of_getElem? (i := 1819) (by decide +kernel)) rfl, big_sel (q := (yX10_countFrom, 80)) (by decide +kernel), mw_initialized_RX10, big_tab (List.mem_of_getElem? (i := 1820) (by decide +kernel)) rfl, ⟨by decide +kernel, by decide +kernel, by decide +kernel⟩⟩
theorem cV_X10_before : CVw yX10_before cX10_before 4 (some .long) 0 := ⟨big_tab (List.mem_of_getElem? (i := 1806) (by decide +kernel)) rfl, big_tab (List.mem_of_getElem? (i := 1807) (by decide +kernel)) rfl, mw_initialized_RX10, big_tab (List.mem_of_getElem? (i := 1808) (by decide +kernel)) rfl, ⟨by decide +kernel, by decide +kernel, by decide +kernel⟩⟩
theorem cV_X10_stepSet : CVw yX10_stepSet cX10_stepSet 9 (some .int) 3 := ⟨big_tab (List.mem_of_getElem? (i := 1835) (by decide +kernel)) rfl, big_sel (q := (yX10_stepSet, 80)) (by decide +kernel), mw_initialized_RX10, big_tab (List.mem_of_getElem? (i := 1836) (by decide +kernel)) rfl, ⟨by decide +kernel, by decide +kernel, by decide +kernel⟩⟩
theorem cV_X10_allPairs : CVw yX10_allPairs cX10_allPairs 4 (some .int) 0 := ⟨big_tab (List.mem_of_getElem? (i := 1831) (by decide +kernel)) rfl, big_sel (q := (yX10_allPairs, 80)) (by decide +kernel), mw_initialized_RX10, big_tab (List.mem_of_getElem? (i := 1832) (by decide +kernel)) rfl, ⟨by decide +kernel, by decide +kernel, by decide +kernel⟩⟩
theorem cV_X10_orphan : CVw yX10_orphan cX10_orphan 6 (some .int) 1 := ⟨big_tab (List.mem_of_getElem? (i := 1826) (by decide +kernel)) rfl, big_tab (List.mem_of_getElem? (i := 1827) (by decide +kernel)) rfl, mw_initialized_RX10, big_tab (List.mem_of_getElem? (i := 1828) (by decide +kernel)) rfl, ⟨by decide +kernel, by decide +kernel, by decide +kernel⟩⟩
theorem cV_X10_layOrphan : CVw yX10_layOrphan cX10_layOrphan 3 (some .int) 0 := ⟨big_tab (List.mem_of_getElem? (i := 1839) (by decide +kernel)) rfl, big_sel (q := (yX10_layOrphan, 80)) (by decide +kernel), mw_initialized_RX10, big_tab (List.mem_of_getElem? (i := 1840) (by decide +kernel)) rfl, ⟨by decide +kernel, by decide +kernel, by decide +kernel⟩⟩
theorem cV_X10_orphanAt : CVw yX10_orphanAt cX10_orphanAt 4 (some .int) 1 := ⟨big_tab (List.mem_of_getElem? (i := 1907) (by decide +kernel)) rfl, big_sel (q := (yX10_orphanAt, 80)) (by decide +kernel), mw_initialized_RX10, big_tab (List.mem_of_getElem? (i := 1908) (by decide +kernel)) rfl, ⟨by decide +kernel, by decide +kernel, by decide +kernel⟩⟩
theorem cV_X10_leads : CVw yX10_leads cX10_leads 10 (some .boolean) 3 := ⟨big_tab (List.mem_of_getElem? (i := 1855) (by decide +kernel)) rfl, big_sel (q := (yX10_leads, 80)) (by decide +kernel), mw_initialized_RX10, big_tab (List.mem_of_getElem? (i := 1856) (by decide +kernel)) rfl, ⟨by decide +kernel, by decide +kernel, by decide +kernel⟩⟩
theorem cV_X10_isPair : CVw yX10_isPair cX10_isPair 2 (some .boolean) 1 := ⟨big_tab (List.mem_of_getElem? (i := 1847) (by decide +kernel)) rfl, big_sel (q := (yX10_isPair, 80)) (by decide +kernel), mw_initialized_RX10, big_tab (List.mem_of_getElem? (i := 1848) (by decide +kernel)) rfl, ⟨by decide +kernel, by decide +kernel, by decide +kernel⟩⟩
theorem cV_X10_hasNext : CVw yX10_hasNext cX10_hasNext 5 (some .boolean) 3 := ⟨big_tab (List.mem_of_getElem? (i := 1851) (by decide +kernel)) rfl, big_sel (q := (yX10_hasNext, 80)) (by decide +kernel), mw_initialized_RX10, big_tab (List.mem_of_getElem? (i := 1852) (by decide +kernel)) rfl, ⟨by decide +kernel, by decide +kernel, by decide +kernel⟩⟩
theorem cV_X10_one : CVw yX10_one cX10_one 4 (some .int) 1 := ⟨big_tab (List.mem_of_getElem? (i := 1842) (by decide +kernel)) rfl, big_tab (List.mem_of_getElem? (i := 1843) (by decide +kernel)) rfl, mw_initialized_RX10, big_tab (List.mem_of_getElem? (i := 1844) (by decide +kernel)) rfl, ⟨by decide +kernel, by decide +kernel, by decide +kernel⟩⟩
theorem cV_X10_keeps : CVw yX10_keeps cX10_keeps 5 (some .int) 1 := ⟨big_tab (List.mem_of_getElem? (i := 1858) (by decide +kernel)) rfl, big_tab (List.mem_of_getElem? (i := 1859) (by decide +kernel)) rfl, mw_initialized_RX10, big_tab (List.mem_of_getElem? (i := 1860) (by decide +kernel)) rfl, ⟨by decide +kernel, by decide +kernel, by decide +kernel⟩⟩
theorem cV_X10_isSame : CVw yX10_isSame cX10_isSame 7 (some .boolean) 3 := ⟨big_tab (List.mem_of_getElem? (i := 1863) (by decide +kernel)) rfl, big_sel (q := (yX10_isSame, 80)) (by decide +kernel), mw_initialized_RX10, big_tab (List.mem_of_getElem? (i := 1864) (by decide +kernel)) rfl, ⟨by decide +kernel, by decide +kernel, by decide +kernel⟩⟩
theorem cV_X10_spread : CVw yX10_spread cX10_spread 6 (some .int) 3 := ⟨big_tab (List.mem_of_getElem? (i := 1866) (by decide +kernel)) rfl, big_tab (List.mem_of_getElem? (i := 1867) (by decide +kernel)) rfl, mw_initialized_RX10, big_tab (List.mem_of_getElem? (i := 1868) (by decide +kernel)) rfl, ⟨by decide +kernel, by decide +kernel, by decide +kernel⟩⟩
theorem cV_X10_isSoBy : CVw yX10_isSoBy cX10_isSoBy 6 (some .boolean) 4 := ⟨big_tab (List.mem_of_getElem? (i := 1879) (by decide +kernel)) rfl, big_sel (q := (yX10_isSoBy, 80)) (by decide +kernel), mw_initialized_RX10, big_tab (List.mem_of_getElem? (i := 1880) (by decide +kernel)) rfl, ⟨by decide +kernel, by decide +kernel, by decide +kernel⟩⟩
theorem cV_X10_nextMen : CVw yX10_nextMen cX10_nextMen 4 (some .boolean) 1 := ⟨big_tab (List.mem_of_getElem? (i := 1891) (by decide +kernel)) rfl, big_sel (q := (yX10_nextMen, 80)) (by decide +kernel), mw_initialized_RX10, big_tab (List.mem_of_getElem? (i := 1892) (by decide +kernel)) rfl, ⟨by decide +kernel, by decide +kernel, by decide +kernel⟩⟩
theorem cV_X10_otherMove : CVw yX10_otherMove cX10_otherMove 3 (some .int) 2 := ⟨big_tab (List.mem_of_getElem? (i := 1875) (by decide +kernel)) rfl, big_sel (q := (yX10_otherMove, 80)) (by decide +kernel), mw_initialized_RX10, big_tab (List.mem_of_getElem? (i := 1876) (by decide +kernel)) rfl, ⟨by decide +kernel, by decide +kernel, by decide +kernel⟩⟩
theorem cV_X10_nextMoves : CVw yX10_nextMoves cX10_nextMoves 3 (some .boolean) 1 := ⟨big_tab (List.mem_of_getElem? (i := 1887) (by decide +kernel)) rfl, big_sel (q := (yX10_nextMoves, 80)) (by decide +kernel), mw_initialized_RX10, big_tab (List.mem_of_getElem? (i := 1888) (by decide +kernel)) rfl, ⟨by decide +kernel, by decide +kernel, by decide +kernel⟩⟩
theorem cV_X10_glint : CVw yX10_glint cX10_glint 7 (some .int) 3 := ⟨big_tab (List.mem_of_getElem? (i := 1870) (by decide +kernel)) rfl, big_tab (List.mem_of_getElem? (i := 1871) (by decide +kernel)) rfl, mw_initialized_RX10, big_tab (List.mem_of_getElem? (i := 1872) (by decide +kernel)) rfl, ⟨by decide +kernel, by decide +kernel, by decide +kernel⟩⟩
theorem cV_X10_layGlint : CVw yX10_layGlint cX10_layGlint 3 (some .int) 1 := ⟨big_tab (List.mem_of_getElem? (i := 1883) (by decide +kernel)) rfl, big_sel (q := (yX10_layGlint, 80)) (by decide +kernel), mw_initialized_RX10, big_tab (List.mem_of_getElem? (i := 1884) (by decide +kernel)) rfl, ⟨by decide +kernel, by decide +kernel, by decide +kernel⟩⟩
theorem cV_X10_cracks : CVw yX10_cracks cX10_cracks 7 (some .int) 3 := ⟨big_tab (List.mem_of_getElem? (i := 1894) (by decide +kernel)) rfl, big_tab (List.mem_of_getElem? (i := 1895) (by decide +kernel)) rfl, mw_initialized_RX10, big_tab (List.mem_of_getElem? (i := 1896) (by decide +kernel)) rfl, ⟨by decide +kernel, by decide +kernel, by decide +kernel⟩⟩
theorem cV_X10_layCracks : CVw yX10_layCracks cX10_layCracks 3 (some .int) 1 := ⟨big_tab (List.mem_of_getElem? (i := 1899) (by decide +kernel)) rfl, big_sel (q := (yX10_layCracks, 80)) (by decide +kernel), mw_initialized_RX10, big_tab (List.mem_of_getElem? (i := 1900) (by decide +kernel)) rfl, ⟨by decide +kernel, by decide +kernel, by decide +kernel⟩⟩
theorem cV_X10_lies : CVw yX10_lies cX10_lies 2 (some .int) 1 := ⟨big_tab (List.mem_of_getElem? (i := 1902) (by decide +kernel)) rfl, big_tab (List.mem_of_getElem? (i := 1903) (by decide +kernel)) rfl, mw_initialized_RX10, big_tab (List.mem_of_getElem? (i := 1904) (by decide +kernel)) rfl, ⟨by decide +kernel, by decide +kernel, by decide +kernel⟩⟩
theorem cV_X10_sight : CVw yX10_sight cX10_sight 4 (some .int) 3 := ⟨big_tab (List.mem_of_getElem? (i := 1910) (by decide +kernel)) rfl, big_tab (List.mem_of_getElem? (i := 1911) (by decide +kernel)) rfl, mw_initialized_RX10, big_tab (List.mem_of_getElem? (i := 1912) (by decide +kernel)) rfl, ⟨by decide +kernel, by decide +kernel, by decide +kernel⟩⟩
theorem cV_X10_untell : CVw yX10_untell cX10_untell 2 (some .boolean) 1 := ⟨big_tab (List.mem_of_getElem? (i := 1914) (by decide +kernel)) rfl, big_tab (List.mem_of_getElem? (i := 1915) (by decide +kernel)) rfl, mw_initialized_RX10, big_tab (List.mem_of_getElem? (i := 1916) (by decide +kernel)) rfl, ⟨by decide +kernel, by decide +kernel, by decide +kernel⟩⟩
theorem cV_X10_later : CVw yX10_later cX10_later 2 (some .int) 1 := ⟨big_tab (List.mem_of_getElem? (i := 1918) (by decide +kernel)) rfl, big_tab (List.mem_of_getElem? (i := 1919) (by decide +kernel)) rfl, mw_initialized_RX10, big_tab (List.mem_of_getElem? (i := 1920) (by decide +kernel)) rfl, ⟨by decide +kernel, by decide +kernel, by decide +kernel⟩⟩
theorem cV_X10_unsure : CVw yX10_unsure cX10_unsure 2 (some .int) 1 := ⟨big_tab (List.mem_of_getElem? (i := 1922) (by decide +kernel)) rfl, big_tab (List.mem_of_getElem? (i := 1923) (by decide +kernel)) rfl, mw_initialized_RX10, big_tab (List.mem_of_getElem? (i := 1924) (by decide +kernel)) rfl, ⟨by decide +kernel, by decide +kernel, by decide +kernel⟩⟩
theorem cV_X10_areSo : CVw yX10_areSo cX10_areSo 4 (some .boolean) 1 := ⟨big_tab (List.mem_of_getElem? (i := 1938) (by decide +kernel)) rfl, big_sel (q := (yX10_areSo, 80)) (by decide +kernel), mw_initialized_RX10, big_tab (List.mem_of_getElem? (i := 1939) (by decide +kernel)) rfl, ⟨by decide +kernel, by decide +kernel, by decide +kernel⟩⟩
theorem cV_X10_layCase : CVw yX10_layCase cX10_layCase 4 none 1 := ⟨big_tab (List.mem_of_getElem? (i := 1934) (by decide +kernel)) rfl, big_sel (q := (yX10_layCase, 80)) (by decide +kernel), mw_initialized_RX10, big_tab (List.mem_of_getElem? (i := 1935) (by decide +kernel)) rfl, ⟨by decide +kernel, by decide +kernel, by decide +kernel⟩⟩
theorem cV_X10_fits : CVw yX10_fits cX10_fits 6 (some .int) 1 := ⟨big_tab (List.mem_of_getElem? (i := 1929) (by decide +kernel)) rfl, big_tab (List.mem_of_getElem? (i := 1930) (by decide +kernel)) rfl, mw_initialized_RX10, big_tab (List.mem_of_getElem? (i := 1931) (by decide +kernel)) rfl, ⟨by decide +kernel, by decide +kernel, by decide +kernel⟩⟩
theorem cV_X10_sure : CVw yX10_sure cX10_sure 4 (some .int) 2 := ⟨big_tab (List.mem_of_getElem? (i := 1941) (by decide +kernel)) rfl, big_tab (List.mem_of_getElem? (i := 1942) (by decide +kernel)) rfl, mw_initialized_RX10, big_tab (List.mem_of_getElem? (i := 1943) (by decide +kernel)) rfl, ⟨by decide +kernel, by decide +kernel, by decide +kernel⟩⟩
theorem cV_X10_isCase : CVw yX10_isCase cX10_isCase 2 (some .boolean) 1 := ⟨big_tab (List.mem_of_getElem? (i := 1951) (by decide +kernel)) rfl, big_sel (q := (yX10_isCase, 80)) (by decide +kernel), mw_initialized_RX10, big_tab (List.mem_of_getElem? (i := 1952) (by decide +kernel)) rfl, ⟨by decide +kernel, by decide +kernel, by decide +kernel⟩⟩
theorem cV_X10_wrong : CVw yX10_wrong cX10_wrong 5 (some .int) 2 := ⟨big_tab (List.mem_of_getElem? (i := 1946) (by decide +kernel)) rfl, big_tab (List.mem_of_getElem? (i := 1947) (by decide +kernel)) rfl, mw_initialized_RX10, big_tab (List.mem_of_getElem? (i := 1948) (by decide +kernel)) rfl, ⟨by decide +kernel, by decide +kernel, by decide +kernel⟩⟩
theorem cV_X10_canCrack : CVw yX10_canCrack cX10_canCrack 4 (some .boolean) 2 := ⟨big_tab (List.mem_of_getElem? (i := 1955) (by decide +kernel)) rfl, big_sel (q := (yX10_canCrack, 80)) (by decide +kernel), mw_initialized_RX10, big_tab (List.mem_of_getElem? (i := 1956) (by decide +kernel)) rfl, ⟨by decide +kernel, by decide +kernel, by decide +kernel⟩⟩
theorem cV_X10_canSee : CVw yX10_canSee cX10_canSee 5 (some .boolean) 2 := ⟨big_tab (List.mem_of_getElem? (i := 1959) (by decide +kernel)) rfl, big_sel (q := (yX10_canSee, 80)) (by decide +kernel), mw_initialized_RX10, big_tab (List.mem_of_getElem? (i := 1960) (by decide +kernel)) rfl, ⟨by decide +kernel, by decide +kernel, by decide +kernel⟩⟩
theorem cV_X10_image : CVw yX10_image cX10_image 3 (some .int) 1 := ⟨big_tab (List.mem_of_getElem? (i := 1962) (by decide +kernel)) rfl, big_tab (List.mem_of_getElem? (i := 1963) (by decide +kernel)) rfl, mw_initialized_RX10, big_tab (List.mem_of_getElem? (i := 1964) (by decide +kernel)) rfl, ⟨by decide +kernel, by decide +kernel, by decide +kernel⟩⟩
theorem cV_X10_back : CVw yX10_back cX10_back 3 (some .int) 1 := ⟨big_tab (List.mem_of_getElem? (i := 1966) (by decide +kernel)) rfl, big_tab (List.mem_of_getElem? (i := 1967) (by decide +kernel)) rfl, mw_initialized_RX10, big_tab (List.mem_of_getElem? (i := 1968) (by decide +kernel)) rfl, ⟨by decide +kernel, by decide +kernel, by decide +kernel⟩⟩
theorem cV_X10_about : CVw yX10_about cX10_about 2 (some .int) 1 := ⟨big_tab (List.mem_of_getElem? (i := 1970) (by decide +kernel)) rfl, big_tab (List.mem_of_getElem? (i := 1971) (by decide +kernel)) rfl, mw_initialized_RX10, big_tab (List.mem_of_getElem? (i := 1972) (by decide +kernel)) rfl, ⟨by decide +kernel, by decide +kernel, by decide +kernel⟩⟩
theorem cV_X10_feed : CVw yX10_feed cX10_feed 8 (some .int) 5 := ⟨big_tab (List.mem_of_getElem? (i := 1974) (by decide +kernel)) rfl, big_tab (List.mem_of_getElem? (i := 1975) (by decide +kernel)) rfl, mw_initialized_RX10, big_tab (List.mem_of_getElem? (i := 1976) (by decide +kernel)) rfl, ⟨by decide +kernel, by decide +kernel, by decide +kernel⟩⟩
theorem cV_X10_end : CVw yX10_end cX10_end 2 (some .int) 1 := ⟨big_tab (List.mem_of_getElem? (i := 1978) (by decide +kernel)) rfl, big_tab (List.mem_of_getElem? (i := 1979) (by decide +kernel)) rfl, mw_initialized_RX10, big_tab (List.mem_of_getElem? (i := 1980) (by decide +kernel)) rfl, ⟨by decide +kernel, by decide +kernel, by decide +kernel⟩⟩
theorem cS_J7_fill_d0a16 : CSw yJ7_fill_d0a16 cJ7_fill_d0a16 5 none 2 := ⟨big_tab (List.mem_of_getElem? (i := 1189) (by decide +kernel)) rfl, big_tab (List.mem_of_getElem? (i := 13) (by decide +kernel)) rfl, big_tab (List.mem_of_getElem? (i := 1190) (by decide +kernel)) rfl, ⟨by decide +kernel, by decide +kernel, by decide +kernel⟩⟩
theorem cS_J7_fill_53178 : CSw yJ7_fill_53178 cJ7_fill_53178 4 none 2 := ⟨big_tab (List.mem_of_getElem? (i := 455) (by decide +kernel)) rfl, big_tab (List.mem_of_getElem? (i := 13) (by decide +kernel)) rfl, big_tab (List.mem_of_getElem? (i := 456) (by decide +kernel)) rfl, ⟨by decide +kernel, by decide +kernel, by decide +kernel⟩⟩
theorem cS_J6_bitCount_0f7a4 : CSw yJ6_bitCount_0f7a4 cJ6_bitCount_0f7a4 1 (some .int) 1 := ⟨big_tab (List.mem_of_getElem? (i := 1167) (by decide +kernel)) rfl, big_tab (List.mem_of_getElem? (i := 21) (by decide +kernel)) rfl, big_tab (List.mem_of_getElem? (i := 1168) (by decide +kernel)) rfl, ⟨by decide +kernel, by decide +kernel, by decide +kernel⟩⟩
end
