section
-- ===== PART A: goes FIRST, ahead of the names: the tables' words, and 'selects' of the private methods out of them =====
/-- a private method of a class that the tables say can be made, by its rows of tables_1 -/
def lw_okq (q : MethodName × Nat) : Prop := (q.1.cls ≠ "java/lang/invoke/MethodHandle" ∧ q.1.cls ≠ "java/lang/invoke/VarHandle") ∧ Cond.instantiable q.1.cls q.2 ∈ tables_1 ∧ Cond.privateMethod q.1 ∈ tables_1 ∧ Cond.instanceMethod q.1 ∈ tables_1
theorem lw_p0 : lw_okq (⟨"MirrorDrill", "tapeNumber", "(I)V"⟩, 17) := ⟨⟨by decide +kernel, by decide +kernel⟩, List.mem_of_getElem? (i := 23) (by decide +kernel), List.mem_of_getElem? (i := 432) (by decide +kernel), List.mem_of_getElem? (i := 433) (by decide +kernel)⟩
theorem lw_p1 : lw_okq (⟨"MirrorDrill$Reader", "advance", "()V"⟩, 16) := ⟨⟨by decide +kernel, by decide +kernel⟩, List.mem_of_getElem? (i := 31) (by decide +kernel), List.mem_of_getElem? (i := 458) (by decide +kernel), List.mem_of_getElem? (i := 459) (by decide +kernel)⟩
theorem lw_p2 : lw_okq (⟨"MirrorDrill$Reader", "packWord", "()V"⟩, 16) := ⟨⟨by decide +kernel, by decide +kernel⟩, List.mem_of_getElem? (i := 31) (by decide +kernel), List.mem_of_getElem? (i := 468) (by decide +kernel), List.mem_of_getElem? (i := 469) (by decide +kernel)⟩
theorem lw_p3 : lw_okq (⟨"MirrorDrill$Reader", "scanNumber", "()V"⟩, 16) := ⟨⟨by decide +kernel, by decide +kernel⟩, List.mem_of_getElem? (i := 31) (by decide +kernel), List.mem_of_getElem? (i := 528) (by decide +kernel), List.mem_of_getElem? (i := 529) (by decide +kernel)⟩
theorem lw_p4 : lw_okq (⟨"MirrorDrill$Reader", "startsLine", "(I)Z"⟩, 16) := ⟨⟨by decide +kernel, by decide +kernel⟩, List.mem_of_getElem? (i := 31) (by decide +kernel), List.mem_of_getElem? (i := 598) (by decide +kernel), List.mem_of_getElem? (i := 599) (by decide +kernel)⟩
theorem lw_p5 : lw_okq (⟨"MirrorDrill$Reader", "isTold", "(I)Z"⟩, 16) := ⟨⟨by decide +kernel, by decide +kernel⟩, List.mem_of_getElem? (i := 31) (by decide +kernel), List.mem_of_getElem? (i := 602) (by decide +kernel), List.mem_of_getElem? (i := 603) (by decide +kernel)⟩
theorem lw_p6 : lw_okq (⟨"MirrorDrill$Reader", "refuse", "(I)Z"⟩, 16) := ⟨⟨by decide +kernel, by decide +kernel⟩, List.mem_of_getElem? (i := 31) (by decide +kernel), List.mem_of_getElem? (i := 606) (by decide +kernel), List.mem_of_getElem? (i := 607) (by decide +kernel)⟩
theorem lw_p7 : lw_okq (⟨"MirrorDrill$Reader", "takeNumber", "(II)I"⟩, 16) := ⟨⟨by decide +kernel, by decide +kernel⟩, List.mem_of_getElem? (i := 31) (by decide +kernel), List.mem_of_getElem? (i := 610) (by decide +kernel), List.mem_of_getElem? (i := 611) (by decide +kernel)⟩
theorem lw_p8 : lw_okq (⟨"MirrorDrill$Reader", "takeMove", "()I"⟩, 16) := ⟨⟨by decide +kernel, by decide +kernel⟩, List.mem_of_getElem? (i := 31) (by decide +kernel), List.mem_of_getElem? (i := 614) (by decide +kernel), List.mem_of_getElem? (i := 615) (by decide +kernel)⟩
theorem lw_p9 : lw_okq (⟨"MirrorDrill$Reader", "readRule", "()Z"⟩, 16) := ⟨⟨by decide +kernel, by decide +kernel⟩, List.mem_of_getElem? (i := 31) (by decide +kernel), List.mem_of_getElem? (i := 618) (by decide +kernel), List.mem_of_getElem? (i := 619) (by decide +kernel)⟩
theorem lw_p10 : lw_okq (⟨"MirrorDrill$Reader", "ruleNamed", "(J)I"⟩, 16) := ⟨⟨by decide +kernel, by decide +kernel⟩, List.mem_of_getElem? (i := 31) (by decide +kernel), List.mem_of_getElem? (i := 622) (by decide +kernel), List.mem_of_getElem? (i := 623) (by decide +kernel)⟩
theorem lw_p11 : lw_okq (⟨"MirrorDrill$Reader", "readFormula", "(II)Z"⟩, 16) := ⟨⟨by decide +kernel, by decide +kernel⟩, List.mem_of_getElem? (i := 31) (by decide +kernel), List.mem_of_getElem? (i := 626) (by decide +kernel), List.mem_of_getElem? (i := 627) (by decide +kernel)⟩
theorem lw_p12 : lw_okq (⟨"MirrorDrill$Reader", "readUnit", "(I)Z"⟩, 16) := ⟨⟨by decide +kernel, by decide +kernel⟩, List.mem_of_getElem? (i := 31) (by decide +kernel), List.mem_of_getElem? (i := 630) (by decide +kernel), List.mem_of_getElem? (i := 631) (by decide +kernel)⟩
theorem lw_p13 : lw_okq (⟨"MirrorDrill$Reader", "layPart", "()V"⟩, 16) := ⟨⟨by decide +kernel, by decide +kernel⟩, List.mem_of_getElem? (i := 31) (by decide +kernel), List.mem_of_getElem? (i := 634) (by decide +kernel), List.mem_of_getElem? (i := 635) (by decide +kernel)⟩
theorem lw_p14 : lw_okq (⟨"MirrorDrill$Reader", "valueOf", "(I)I"⟩, 16) := ⟨⟨by decide +kernel, by decide +kernel⟩, List.mem_of_getElem? (i := 31) (by decide +kernel), List.mem_of_getElem? (i := 638) (by decide +kernel), List.mem_of_getElem? (i := 639) (by decide +kernel)⟩
theorem lw_p15 : lw_okq (⟨"MirrorDrill$Reader", "expect", "(I)Z"⟩, 16) := ⟨⟨by decide +kernel, by decide +kernel⟩, List.mem_of_getElem? (i := 31) (by decide +kernel), List.mem_of_getElem? (i := 642) (by decide +kernel), List.mem_of_getElem? (i := 643) (by decide +kernel)⟩
def lw_privs_1 : List (MethodName × Nat) := [(⟨"MirrorDrill", "tapeNumber", "(I)V"⟩, 17), (⟨"MirrorDrill$Reader", "advance", "()V"⟩, 16), (⟨"MirrorDrill$Reader", "packWord", "()V"⟩, 16), (⟨"MirrorDrill$Reader", "scanNumber", "()V"⟩, 16), (⟨"MirrorDrill$Reader", "startsLine", "(I)Z"⟩, 16), (⟨"MirrorDrill$Reader", "isTold", "(I)Z"⟩, 16), (⟨"MirrorDrill$Reader", "refuse", "(I)Z"⟩, 16), (⟨"MirrorDrill$Reader", "takeNumber", "(II)I"⟩, 16), (⟨"MirrorDrill$Reader", "takeMove", "()I"⟩, 16), (⟨"MirrorDrill$Reader", "readRule", "()Z"⟩, 16), (⟨"MirrorDrill$Reader", "ruleNamed", "(J)I"⟩, 16), (⟨"MirrorDrill$Reader", "readFormula", "(II)Z"⟩, 16), (⟨"MirrorDrill$Reader", "readUnit", "(I)Z"⟩, 16), (⟨"MirrorDrill$Reader", "layPart", "()V"⟩, 16), (⟨"MirrorDrill$Reader", "valueOf", "(I)I"⟩, 16), (⟨"MirrorDrill$Reader", "expect", "(I)Z"⟩, 16)]
theorem lw_r1 : ∀ q ∈ lw_privs_1, lw_okq q := List.forall_mem_cons.mpr ⟨lw_p0, List.forall_mem_cons.mpr ⟨lw_p1, List.forall_mem_cons.mpr ⟨lw_p2, List.forall_mem_cons.mpr ⟨lw_p3, List.forall_mem_cons.mpr ⟨lw_p4, List.forall_mem_cons.mpr ⟨lw_p5, List.forall_mem_cons.mpr ⟨lw_p6, List.forall_mem_cons.mpr ⟨lw_p7, List.forall_mem_cons.mpr ⟨lw_p8, List.forall_mem_cons.mpr ⟨lw_p9, List.forall_mem_cons.mpr ⟨lw_p10, List.forall_mem_cons.mpr ⟨lw_p11, List.forall_mem_cons.mpr ⟨lw_p12, List.forall_mem_cons.mpr ⟨lw_p13, List.forall_mem_cons.mpr ⟨lw_p14, List.forall_mem_cons.mpr ⟨lw_p15, fun _ h => absurd h List.not_mem_nil⟩⟩⟩⟩⟩⟩⟩⟩⟩⟩⟩⟩⟩⟩⟩⟩
theorem lw_p16 : lw_okq (⟨"MirrorDrill$Reader", "readNot", "(I)Z"⟩, 16) := ⟨⟨by decide +kernel, by decide +kernel⟩, List.mem_of_getElem? (i := 31) (by decide +kernel), List.mem_of_getElem? (i := 646) (by decide +kernel), List.mem_of_getElem? (i := 647) (by decide +kernel)⟩
theorem lw_p17 : lw_okq (⟨"MirrorDrill$Reader", "joinParts", "(I)V"⟩, 16) := ⟨⟨by decide +kernel, by decide +kernel⟩, List.mem_of_getElem? (i := 31) (by decide +kernel), List.mem_of_getElem? (i := 653) (by decide +kernel), List.mem_of_getElem? (i := 654) (by decide +kernel)⟩
theorem lw_p18 : lw_okq (⟨"MirrorDrill$Reader", "readMan", "()Z"⟩, 16) := ⟨⟨by decide +kernel, by decide +kernel⟩, List.mem_of_getElem? (i := 31) (by decide +kernel), List.mem_of_getElem? (i := 667) (by decide +kernel), List.mem_of_getElem? (i := 668) (by decide +kernel)⟩
theorem lw_p19 : lw_okq (⟨"MirrorDrill$Reader", "readBy", "(I)Z"⟩, 16) := ⟨⟨by decide +kernel, by decide +kernel⟩, List.mem_of_getElem? (i := 31) (by decide +kernel), List.mem_of_getElem? (i := 676) (by decide +kernel), List.mem_of_getElem? (i := 677) (by decide +kernel)⟩
theorem lw_p20 : lw_okq (⟨"MirrorDrill$Reader", "readMarks", "(I)Z"⟩, 16) := ⟨⟨by decide +kernel, by decide +kernel⟩, List.mem_of_getElem? (i := 31) (by decide +kernel), List.mem_of_getElem? (i := 680) (by decide +kernel), List.mem_of_getElem? (i := 681) (by decide +kernel)⟩
theorem lw_p21 : lw_okq (⟨"MirrorDrill$Reader", "readWindow", "(I)Z"⟩, 16) := ⟨⟨by decide +kernel, by decide +kernel⟩, List.mem_of_getElem? (i := 31) (by decide +kernel), List.mem_of_getElem? (i := 684) (by decide +kernel), List.mem_of_getElem? (i := 685) (by decide +kernel)⟩
theorem lw_p22 : lw_okq (⟨"MirrorDrill$Reader", "readWorths", "()Z"⟩, 16) := ⟨⟨by decide +kernel, by decide +kernel⟩, List.mem_of_getElem? (i := 31) (by decide +kernel), List.mem_of_getElem? (i := 688) (by decide +kernel), List.mem_of_getElem? (i := 689) (by decide +kernel)⟩
theorem lw_p23 : lw_okq (⟨"MirrorDrill$Drill", "told", "(IIII)I"⟩, 15) := ⟨⟨by decide +kernel, by decide +kernel⟩, List.mem_of_getElem? (i := 88) (by decide +kernel), List.mem_of_getElem? (i := 704) (by decide +kernel), List.mem_of_getElem? (i := 705) (by decide +kernel)⟩
theorem lw_p24 : lw_okq (⟨"MirrorDrill$Drill", "stays", "(I)Z"⟩, 15) := ⟨⟨by decide +kernel, by decide +kernel⟩, List.mem_of_getElem? (i := 88) (by decide +kernel), List.mem_of_getElem? (i := 712) (by decide +kernel), List.mem_of_getElem? (i := 713) (by decide +kernel)⟩
theorem lw_p25 : lw_okq (⟨"MirrorDrill$Drill", "widened", "(J)J"⟩, 15) := ⟨⟨by decide +kernel, by decide +kernel⟩, List.mem_of_getElem? (i := 88) (by decide +kernel), List.mem_of_getElem? (i := 798) (by decide +kernel), List.mem_of_getElem? (i := 799) (by decide +kernel)⟩
theorem lw_p26 : lw_okq (⟨"MirrorDrill$Drill", "stepsOf", "(JII)J"⟩, 15) := ⟨⟨by decide +kernel, by decide +kernel⟩, List.mem_of_getElem? (i := 88) (by decide +kernel), List.mem_of_getElem? (i := 803) (by decide +kernel), List.mem_of_getElem? (i := 804) (by decide +kernel)⟩
theorem lw_p27 : lw_okq (⟨"MirrorDrill$Course", "follow", "(LMirrorDrill$Drill;J)V"⟩, 5) := ⟨⟨by decide +kernel, by decide +kernel⟩, List.mem_of_getElem? (i := 203) (by decide +kernel), List.mem_of_getElem? (i := 851) (by decide +kernel), List.mem_of_getElem? (i := 852) (by decide +kernel)⟩
theorem lw_p28 : lw_okq (⟨"MirrorDrill$Course", "findLoop", "(LMirrorDrill$Drill;J)I"⟩, 5) := ⟨⟨by decide +kernel, by decide +kernel⟩, List.mem_of_getElem? (i := 203) (by decide +kernel), List.mem_of_getElem? (i := 855) (by decide +kernel), List.mem_of_getElem? (i := 856) (by decide +kernel)⟩
theorem lw_p29 : lw_okq (⟨"MirrorDrill$Forebears", "seekInRing", "()V"⟩, 5) := ⟨⟨by decide +kernel, by decide +kernel⟩, List.mem_of_getElem? (i := 225) (by decide +kernel), List.mem_of_getElem? (i := 877) (by decide +kernel), List.mem_of_getElem? (i := 878) (by decide +kernel)⟩
theorem lw_p30 : lw_okq (⟨"MirrorDrill$Forebears", "layWays", "(II)V"⟩, 5) := ⟨⟨by decide +kernel, by decide +kernel⟩, List.mem_of_getElem? (i := 225) (by decide +kernel), List.mem_of_getElem? (i := 881) (by decide +kernel), List.mem_of_getElem? (i := 882) (by decide +kernel)⟩
theorem lw_p31 : lw_okq (⟨"MirrorDrill$Forebears", "waysAtEnd", "(IIII)J"⟩, 5) := ⟨⟨by decide +kernel, by decide +kernel⟩, List.mem_of_getElem? (i := 225) (by decide +kernel), List.mem_of_getElem? (i := 888) (by decide +kernel), List.mem_of_getElem? (i := 889) (by decide +kernel)⟩
def lw_privs_2 : List (MethodName × Nat) := [(⟨"MirrorDrill$Reader", "readNot", "(I)Z"⟩, 16), (⟨"MirrorDrill$Reader", "joinParts", "(I)V"⟩, 16), (⟨"MirrorDrill$Reader", "readMan", "()Z"⟩, 16), (⟨"MirrorDrill$Reader", "readBy", "(I)Z"⟩, 16), (⟨"MirrorDrill$Reader", "readMarks", "(I)Z"⟩, 16), (⟨"MirrorDrill$Reader", "readWindow", "(I)Z"⟩, 16), (⟨"MirrorDrill$Reader", "readWorths", "()Z"⟩, 16), (⟨"MirrorDrill$Drill", "told", "(IIII)I"⟩, 15), (⟨"MirrorDrill$Drill", "stays", "(I)Z"⟩, 15), (⟨"MirrorDrill$Drill", "widened", "(J)J"⟩, 15), (⟨"MirrorDrill$Drill", "stepsOf", "(JII)J"⟩, 15), (⟨"MirrorDrill$Course", "follow", "(LMirrorDrill$Drill;J)V"⟩, 5), (⟨"MirrorDrill$Course", "findLoop", "(LMirrorDrill$Drill;J)I"⟩, 5), (⟨"MirrorDrill$Forebears", "seekInRing", "()V"⟩, 5), (⟨"MirrorDrill$Forebears", "layWays", "(II)V"⟩, 5), (⟨"MirrorDrill$Forebears", "waysAtEnd", "(IIII)J"⟩, 5)]
theorem lw_r2 : ∀ q ∈ lw_privs_2, lw_okq q := List.forall_mem_cons.mpr ⟨lw_p16, List.forall_mem_cons.mpr ⟨lw_p17, List.forall_mem_cons.mpr ⟨lw_p18, List.forall_mem_cons.mpr ⟨lw_p19, List.forall_mem_cons.mpr ⟨lw_p20, List.forall_mem_cons.mpr ⟨lw_p21, List.forall_mem_cons.mpr ⟨lw_p22, List.forall_mem_cons.mpr ⟨lw_p23, List.forall_mem_cons.mpr ⟨lw_p24, List.forall_mem_cons.mpr ⟨lw_p25, List.forall_mem_cons.mpr ⟨lw_p26, List.forall_mem_cons.mpr ⟨lw_p27, List.forall_mem_cons.mpr ⟨lw_p28, List.forall_mem_cons.mpr ⟨lw_p29, List.forall_mem_cons.mpr ⟨lw_p30, List.forall_mem_cons.mpr ⟨lw_p31, fun _ h => absurd h List.not_mem_nil⟩⟩⟩⟩⟩⟩⟩⟩⟩⟩⟩⟩⟩⟩⟩⟩
theorem lw_p32 : lw_okq (⟨"MirrorDrill$Forebears", "leads", "(IIII)Z"⟩, 5) := ⟨⟨by decide +kernel, by decide +kernel⟩, List.mem_of_getElem? (i := 225) (by decide +kernel), List.mem_of_getElem? (i := 892) (by decide +kernel), List.mem_of_getElem? (i := 893) (by decide +kernel)⟩
theorem lw_p33 : lw_okq (⟨"MirrorDrill$Forebears", "waysBehind", "(III)J"⟩, 5) := ⟨⟨by decide +kernel, by decide +kernel⟩, List.mem_of_getElem? (i := 225) (by decide +kernel), List.mem_of_getElem? (i := 899) (by decide +kernel), List.mem_of_getElem? (i := 900) (by decide +kernel)⟩
theorem lw_p34 : lw_okq (⟨"MirrorDrill$Forebears", "addUp", "(II)V"⟩, 5) := ⟨⟨by decide +kernel, by decide +kernel⟩, List.mem_of_getElem? (i := 225) (by decide +kernel), List.mem_of_getElem? (i := 903) (by decide +kernel), List.mem_of_getElem? (i := 904) (by decide +kernel)⟩
theorem lw_p35 : lw_okq (⟨"MirrorDrill$Forebears", "keyOfFirst", "(II)J"⟩, 5) := ⟨⟨by decide +kernel, by decide +kernel⟩, List.mem_of_getElem? (i := 225) (by decide +kernel), List.mem_of_getElem? (i := 907) (by decide +kernel), List.mem_of_getElem? (i := 908) (by decide +kernel)⟩
theorem lw_p36 : lw_okq (⟨"MirrorDrill$Forebears", "firstBehind", "(III)I"⟩, 5) := ⟨⟨by decide +kernel, by decide +kernel⟩, List.mem_of_getElem? (i := 225) (by decide +kernel), List.mem_of_getElem? (i := 911) (by decide +kernel), List.mem_of_getElem? (i := 912) (by decide +kernel)⟩
theorem lw_p37 : lw_okq (⟨"MirrorDrill$Endless", "take", "(LMirrorDrill$Drill;I)V"⟩, 10) := ⟨⟨by decide +kernel, by decide +kernel⟩, List.mem_of_getElem? (i := 247) (by decide +kernel), List.mem_of_getElem? (i := 961) (by decide +kernel), List.mem_of_getElem? (i := 962) (by decide +kernel)⟩
theorem lw_p38 : lw_okq (⟨"MirrorDrill$Endless", "layLeads", "()V"⟩, 10) := ⟨⟨by decide +kernel, by decide +kernel⟩, List.mem_of_getElem? (i := 247) (by decide +kernel), List.mem_of_getElem? (i := 965) (by decide +kernel), List.mem_of_getElem? (i := 966) (by decide +kernel)⟩
theorem lw_p39 : lw_okq (⟨"MirrorDrill$Endless", "leadsOf", "(I)J"⟩, 10) := ⟨⟨by decide +kernel, by decide +kernel⟩, List.mem_of_getElem? (i := 247) (by decide +kernel), List.mem_of_getElem? (i := 969) (by decide +kernel), List.mem_of_getElem? (i := 970) (by decide +kernel)⟩
theorem lw_p40 : lw_okq (⟨"MirrorDrill$Endless", "leftOf", "(I)I"⟩, 10) := ⟨⟨by decide +kernel, by decide +kernel⟩, List.mem_of_getElem? (i := 247) (by decide +kernel), List.mem_of_getElem? (i := 973) (by decide +kernel), List.mem_of_getElem? (i := 974) (by decide +kernel)⟩
theorem lw_p41 : lw_okq (⟨"MirrorDrill$Endless", "ownOf", "(I)I"⟩, 10) := ⟨⟨by decide +kernel, by decide +kernel⟩, List.mem_of_getElem? (i := 247) (by decide +kernel), List.mem_of_getElem? (i := 977) (by decide +kernel), List.mem_of_getElem? (i := 978) (by decide +kernel)⟩
theorem lw_p42 : lw_okq (⟨"MirrorDrill$Endless", "makes", "(III)I"⟩, 10) := ⟨⟨by decide +kernel, by decide +kernel⟩, List.mem_of_getElem? (i := 247) (by decide +kernel), List.mem_of_getElem? (i := 981) (by decide +kernel), List.mem_of_getElem? (i := 982) (by decide +kernel)⟩
theorem lw_p43 : lw_okq (⟨"MirrorDrill$Endless", "beginQueue", "()V"⟩, 10) := ⟨⟨by decide +kernel, by decide +kernel⟩, List.mem_of_getElem? (i := 247) (by decide +kernel), List.mem_of_getElem? (i := 987) (by decide +kernel), List.mem_of_getElem? (i := 988) (by decide +kernel)⟩
theorem lw_p44 : lw_okq (⟨"MirrorDrill$Endless", "enqueue", "(II)V"⟩, 10) := ⟨⟨by decide +kernel, by decide +kernel⟩, List.mem_of_getElem? (i := 247) (by decide +kernel), List.mem_of_getElem? (i := 993) (by decide +kernel), List.mem_of_getElem? (i := 994) (by decide +kernel)⟩
theorem lw_p45 : lw_okq (⟨"MirrorDrill$Endless", "behind", "(I)J"⟩, 10) := ⟨⟨by decide +kernel, by decide +kernel⟩, List.mem_of_getElem? (i := 247) (by decide +kernel), List.mem_of_getElem? (i := 1000) (by decide +kernel), List.mem_of_getElem? (i := 1001) (by decide +kernel)⟩
theorem lw_p46 : lw_okq (⟨"MirrorDrill$Endless", "layWord", "(IILMirrorDrill$Pile;)I"⟩, 10) := ⟨⟨by decide +kernel, by decide +kernel⟩, List.mem_of_getElem? (i := 247) (by decide +kernel), List.mem_of_getElem? (i := 1004) (by decide +kernel), List.mem_of_getElem? (i := 1005) (by decide +kernel)⟩
theorem lw_p47 : lw_okq (⟨"MirrorDrill$Endless", "moveBetween", "(II)I"⟩, 10) := ⟨⟨by decide +kernel, by decide +kernel⟩, List.mem_of_getElem? (i := 247) (by decide +kernel), List.mem_of_getElem? (i := 1010) (by decide +kernel), List.mem_of_getElem? (i := 1011) (by decide +kernel)⟩
def lw_privs_3 : List (MethodName × Nat) := [(⟨"MirrorDrill$Forebears", "leads", "(IIII)Z"⟩, 5), (⟨"MirrorDrill$Forebears", "waysBehind", "(III)J"⟩, 5), (⟨"MirrorDrill$Forebears", "addUp", "(II)V"⟩, 5), (⟨"MirrorDrill$Forebears", "keyOfFirst", "(II)J"⟩, 5), (⟨"MirrorDrill$Forebears", "firstBehind", "(III)I"⟩, 5), (⟨"MirrorDrill$Endless", "take", "(LMirrorDrill$Drill;I)V"⟩, 10), (⟨"MirrorDrill$Endless", "layLeads", "()V"⟩, 10), (⟨"MirrorDrill$Endless", "leadsOf", "(I)J"⟩, 10), (⟨"MirrorDrill$Endless", "leftOf", "(I)I"⟩, 10), (⟨"MirrorDrill$Endless", "ownOf", "(I)I"⟩, 10), (⟨"MirrorDrill$Endless", "makes", "(III)I"⟩, 10), (⟨"MirrorDrill$Endless", "beginQueue", "()V"⟩, 10), (⟨"MirrorDrill$Endless", "enqueue", "(II)V"⟩, 10), (⟨"MirrorDrill$Endless", "behind", "(I)J"⟩, 10), (⟨"MirrorDrill$Endless", "layWord", "(IILMirrorDrill$Pile;)I"⟩, 10), (⟨"MirrorDrill$Endless", "moveBetween", "(II)I"⟩, 10)]
theorem lw_r3 : ∀ q ∈ lw_privs_3, lw_okq q := List.forall_mem_cons.mpr ⟨lw_p32, List.forall_mem_cons.mpr ⟨lw_p33, List.forall_mem_cons.mpr ⟨lw_p34, List.forall_mem_cons.mpr ⟨lw_p35, List.forall_mem_cons.mpr ⟨lw_p36, List.forall_mem_cons.mpr ⟨lw_p37, List.forall_mem_cons.mpr ⟨lw_p38, List.forall_mem_cons.mpr ⟨lw_p39, List.forall_mem_cons.mpr ⟨lw_p40, List.forall_mem_cons.mpr ⟨lw_p41, List.forall_mem_cons.mpr ⟨lw_p42, List.forall_mem_cons.mpr ⟨lw_p43, List.forall_mem_cons.mpr ⟨lw_p44, List.forall_mem_cons.mpr ⟨lw_p45, List.forall_mem_cons.mpr ⟨lw_p46, List.forall_mem_cons.mpr ⟨lw_p47, fun _ h => absurd h List.not_mem_nil⟩⟩⟩⟩⟩⟩⟩⟩⟩⟩⟩⟩⟩⟩⟩⟩
theorem lw_p48 : lw_okq (⟨"MirrorDrill$Endless", "thinOut", "()Z"⟩, 10) := ⟨⟨by decide +kernel, by decide +kernel⟩, List.mem_of_getElem? (i := 247) (by decide +kernel), List.mem_of_getElem? (i := 1022) (by decide +kernel), List.mem_of_getElem? (i := 1023) (by decide +kernel)⟩
theorem lw_p49 : lw_okq (⟨"MirrorDrill$Endless", "walkTogether", "(II)Z"⟩, 10) := ⟨⟨by decide +kernel, by decide +kernel⟩, List.mem_of_getElem? (i := 247) (by decide +kernel), List.mem_of_getElem? (i := 1026) (by decide +kernel), List.mem_of_getElem? (i := 1027) (by decide +kernel)⟩
theorem lw_p50 : lw_okq (⟨"MirrorDrill$Endless", "goesOn", "(II)Z"⟩, 10) := ⟨⟨by decide +kernel, by decide +kernel⟩, List.mem_of_getElem? (i := 247) (by decide +kernel), List.mem_of_getElem? (i := 1030) (by decide +kernel), List.mem_of_getElem? (i := 1031) (by decide +kernel)⟩
theorem lw_p51 : lw_okq (⟨"MirrorDrill$Endless", "cameFrom", "(II)Z"⟩, 10) := ⟨⟨by decide +kernel, by decide +kernel⟩, List.mem_of_getElem? (i := 247) (by decide +kernel), List.mem_of_getElem? (i := 1034) (by decide +kernel), List.mem_of_getElem? (i := 1035) (by decide +kernel)⟩
theorem lw_p52 : lw_okq (⟨"MirrorDrill$Endless", "isRing", "(II)Z"⟩, 10) := ⟨⟨by decide +kernel, by decide +kernel⟩, List.mem_of_getElem? (i := 247) (by decide +kernel), List.mem_of_getElem? (i := 1046) (by decide +kernel), List.mem_of_getElem? (i := 1047) (by decide +kernel)⟩
theorem lw_p53 : lw_okq (⟨"MirrorDrill$Endless", "gainOf", "(II)I"⟩, 10) := ⟨⟨by decide +kernel, by decide +kernel⟩, List.mem_of_getElem? (i := 247) (by decide +kernel), List.mem_of_getElem? (i := 1051) (by decide +kernel), List.mem_of_getElem? (i := 1052) (by decide +kernel)⟩
theorem lw_p54 : lw_okq (⟨"MirrorDrill$Changes", "isSoAnyway", "()Z"⟩, 9) := ⟨⟨by decide +kernel, by decide +kernel⟩, List.mem_of_getElem? (i := 284) (by decide +kernel), List.mem_of_getElem? (i := 1087) (by decide +kernel), List.mem_of_getElem? (i := 1088) (by decide +kernel)⟩
theorem lw_p55 : lw_okq (⟨"MirrorDrill$Changes", "orderMen", "(II)Z"⟩, 9) := ⟨⟨by decide +kernel, by decide +kernel⟩, List.mem_of_getElem? (i := 284) (by decide +kernel), List.mem_of_getElem? (i := 1092) (by decide +kernel), List.mem_of_getElem? (i := 1093) (by decide +kernel)⟩
theorem lw_p56 : lw_okq (⟨"MirrorDrill$Changes", "orderMoves", "(IJ)Z"⟩, 9) := ⟨⟨by decide +kernel, by decide +kernel⟩, List.mem_of_getElem? (i := 284) (by decide +kernel), List.mem_of_getElem? (i := 1096) (by decide +kernel), List.mem_of_getElem? (i := 1097) (by decide +kernel)⟩
theorem lw_p57 : lw_okq (⟨"MirrorDrill$Changes", "comesTrue", "(J)Z"⟩, 9) := ⟨⟨by decide +kernel, by decide +kernel⟩, List.mem_of_getElem? (i := 284) (by decide +kernel), List.mem_of_getElem? (i := 1100) (by decide +kernel), List.mem_of_getElem? (i := 1101) (by decide +kernel)⟩
theorem lw_p58 : lw_okq (⟨"MirrorDrill$Changes", "layMen", "(LMirrorDrill$Pile;)V"⟩, 9) := ⟨⟨by decide +kernel, by decide +kernel⟩, List.mem_of_getElem? (i := 284) (by decide +kernel), List.mem_of_getElem? (i := 1112) (by decide +kernel), List.mem_of_getElem? (i := 1113) (by decide +kernel)⟩
theorem lw_p59 : lw_okq (⟨"MirrorDrill$Changes", "crackMen", "(IIJ)Z"⟩, 9) := ⟨⟨by decide +kernel, by decide +kernel⟩, List.mem_of_getElem? (i := 284) (by decide +kernel), List.mem_of_getElem? (i := 1125) (by decide +kernel), List.mem_of_getElem? (i := 1126) (by decide +kernel)⟩
theorem lw_p60 : lw_okq (⟨"MirrorDrill$Changes", "comesTrueCracked", "(J)Z"⟩, 9) := ⟨⟨by decide +kernel, by decide +kernel⟩, List.mem_of_getElem? (i := 284) (by decide +kernel), List.mem_of_getElem? (i := 1129) (by decide +kernel), List.mem_of_getElem? (i := 1130) (by decide +kernel)⟩
theorem lw_p61 : lw_okq (⟨"MirrorDrill$Witness", "gather", "(LMirrorDrill$Drill;I)I"⟩, 17) := ⟨⟨by decide +kernel, by decide +kernel⟩, List.mem_of_getElem? (i := 318) (by decide +kernel), List.mem_of_getElem? (i := 1185) (by decide +kernel), List.mem_of_getElem? (i := 1186) (by decide +kernel)⟩
theorem lw_p62 : lw_okq (⟨"MirrorDrill$Witness", "counts", "(II)Z"⟩, 17) := ⟨⟨by decide +kernel, by decide +kernel⟩, List.mem_of_getElem? (i := 318) (by decide +kernel), List.mem_of_getElem? (i := 1192) (by decide +kernel), List.mem_of_getElem? (i := 1193) (by decide +kernel)⟩
theorem lw_p63 : lw_okq (⟨"MirrorDrill$Witness", "demand", "(III)V"⟩, 17) := ⟨⟨by decide +kernel, by decide +kernel⟩, List.mem_of_getElem? (i := 318) (by decide +kernel), List.mem_of_getElem? (i := 1196) (by decide +kernel), List.mem_of_getElem? (i := 1197) (by decide +kernel)⟩
def lw_privs_4 : List (MethodName × Nat) := [(⟨"MirrorDrill$Endless", "thinOut", "()Z"⟩, 10), (⟨"MirrorDrill$Endless", "walkTogether", "(II)Z"⟩, 10), (⟨"MirrorDrill$Endless", "goesOn", "(II)Z"⟩, 10), (⟨"MirrorDrill$Endless", "cameFrom", "(II)Z"⟩, 10), (⟨"MirrorDrill$Endless", "isRing", "(II)Z"⟩, 10), (⟨"MirrorDrill$Endless", "gainOf", "(II)I"⟩, 10), (⟨"MirrorDrill$Changes", "isSoAnyway", "()Z"⟩, 9), (⟨"MirrorDrill$Changes", "orderMen", "(II)Z"⟩, 9), (⟨"MirrorDrill$Changes", "orderMoves", "(IJ)Z"⟩, 9), (⟨"MirrorDrill$Changes", "comesTrue", "(J)Z"⟩, 9), (⟨"MirrorDrill$Changes", "layMen", "(LMirrorDrill$Pile;)V"⟩, 9), (⟨"MirrorDrill$Changes", "crackMen", "(IIJ)Z"⟩, 9), (⟨"MirrorDrill$Changes", "comesTrueCracked", "(J)Z"⟩, 9), (⟨"MirrorDrill$Witness", "gather", "(LMirrorDrill$Drill;I)I"⟩, 17), (⟨"MirrorDrill$Witness", "counts", "(II)Z"⟩, 17), (⟨"MirrorDrill$Witness", "demand", "(III)V"⟩, 17)]
theorem lw_r4 : ∀ q ∈ lw_privs_4, lw_okq q := List.forall_mem_cons.mpr ⟨lw_p48, List.forall_mem_cons.mpr ⟨lw_p49, List.forall_mem_cons.mpr ⟨lw_p50, List.forall_mem_cons.mpr ⟨lw_p51, List.forall_mem_cons.mpr ⟨lw_p52, List.forall_mem_cons.mpr ⟨lw_p53, List.forall_mem_cons.mpr ⟨lw_p54, List.forall_mem_cons.mpr ⟨lw_p55, List.forall_mem_cons.mpr ⟨lw_p56, List.forall_mem_cons.mpr ⟨lw_p57, List.forall_mem_cons.mpr ⟨lw_p58, List.forall_mem_cons.mpr ⟨lw_p59, List.forall_mem_cons.mpr ⟨lw_p60, List.forall_mem_cons.mpr ⟨lw_p61, List.forall_mem_cons.mpr ⟨lw_p62, List.forall_mem_cons.mpr ⟨lw_p63, fun _ h => absurd h List.not_mem_nil⟩⟩⟩⟩⟩⟩⟩⟩⟩⟩⟩⟩⟩⟩⟩⟩
theorem lw_p64 : lw_okq (⟨"MirrorDrill$Witness", "tryAll", "()V"⟩, 17) := ⟨⟨by decide +kernel, by decide +kernel⟩, List.mem_of_getElem? (i := 318) (by decide +kernel), List.mem_of_getElem? (i := 1203) (by decide +kernel), List.mem_of_getElem? (i := 1204) (by decide +kernel)⟩
theorem lw_p65 : lw_okq (⟨"MirrorDrill$Witness", "listUnsure", "()I"⟩, 17) := ⟨⟨by decide +kernel, by decide +kernel⟩, List.mem_of_getElem? (i := 318) (by decide +kernel), List.mem_of_getElem? (i := 1207) (by decide +kernel), List.mem_of_getElem? (i := 1208) (by decide +kernel)⟩
theorem lw_p66 : lw_okq (⟨"MirrorDrill$Witness", "rowOfCase", "(II)J"⟩, 17) := ⟨⟨by decide +kernel, by decide +kernel⟩, List.mem_of_getElem? (i := 318) (by decide +kernel), List.mem_of_getElem? (i := 1216) (by decide +kernel), List.mem_of_getElem? (i := 1217) (by decide +kernel)⟩
theorem lw_p67 : lw_okq (⟨"MirrorDrill$Witness", "holds", "(JIII)Z"⟩, 17) := ⟨⟨by decide +kernel, by decide +kernel⟩, List.mem_of_getElem? (i := 318) (by decide +kernel), List.mem_of_getElem? (i := 1220) (by decide +kernel), List.mem_of_getElem? (i := 1221) (by decide +kernel)⟩
theorem lw_p68 : lw_okq (⟨"MirrorDrill$Witness", "isAsSeen", "(JI)Z"⟩, 17) := ⟨⟨by decide +kernel, by decide +kernel⟩, List.mem_of_getElem? (i := 318) (by decide +kernel), List.mem_of_getElem? (i := 1224) (by decide +kernel), List.mem_of_getElem? (i := 1225) (by decide +kernel)⟩
theorem lw_p69 : lw_okq (⟨"MirrorDrill$Witness", "noteMoves", "(JI)V"⟩, 17) := ⟨⟨by decide +kernel, by decide +kernel⟩, List.mem_of_getElem? (i := 318) (by decide +kernel), List.mem_of_getElem? (i := 1230) (by decide +kernel), List.mem_of_getElem? (i := 1231) (by decide +kernel)⟩
theorem lw_p70 : lw_okq (⟨"MirrorDrillModel", "clearBank", "()V"⟩, 80) := ⟨⟨by decide +kernel, by decide +kernel⟩, List.mem_of_getElem? (i := 1292) (by decide +kernel), List.mem_of_getElem? (i := 1299) (by decide +kernel), List.mem_of_getElem? (i := 1300) (by decide +kernel)⟩
theorem lw_p71 : lw_okq (⟨"MirrorDrillModel", "begin", "()V"⟩, 80) := ⟨⟨by decide +kernel, by decide +kernel⟩, List.mem_of_getElem? (i := 1292) (by decide +kernel), List.mem_of_getElem? (i := 1303) (by decide +kernel), List.mem_of_getElem? (i := 1304) (by decide +kernel)⟩
theorem lw_p72 : lw_okq (⟨"MirrorDrillModel", "layFirst", "()V"⟩, 80) := ⟨⟨by decide +kernel, by decide +kernel⟩, List.mem_of_getElem? (i := 1292) (by decide +kernel), List.mem_of_getElem? (i := 1307) (by decide +kernel), List.mem_of_getElem? (i := 1308) (by decide +kernel)⟩
theorem lw_p73 : lw_okq (⟨"MirrorDrillModel", "keepNow", "()V"⟩, 80) := ⟨⟨by decide +kernel, by decide +kernel⟩, List.mem_of_getElem? (i := 1292) (by decide +kernel), List.mem_of_getElem? (i := 1311) (by decide +kernel), List.mem_of_getElem? (i := 1312) (by decide +kernel)⟩
theorem lw_p74 : lw_okq (⟨"MirrorDrillModel", "goOn", "()V"⟩, 80) := ⟨⟨by decide +kernel, by decide +kernel⟩, List.mem_of_getElem? (i := 1292) (by decide +kernel), List.mem_of_getElem? (i := 1561) (by decide +kernel), List.mem_of_getElem? (i := 1562) (by decide +kernel)⟩
theorem lw_p75 : lw_okq (⟨"MirrorDrillModel", "sign", "(I)I"⟩, 80) := ⟨⟨by decide +kernel, by decide +kernel⟩, List.mem_of_getElem? (i := 1292) (by decide +kernel), List.mem_of_getElem? (i := 1565) (by decide +kernel), List.mem_of_getElem? (i := 1566) (by decide +kernel)⟩
theorem lw_p76 : lw_okq (⟨"MirrorDrillModel", "isGood", "()Z"⟩, 80) := ⟨⟨by decide +kernel, by decide +kernel⟩, List.mem_of_getElem? (i := 1292) (by decide +kernel), List.mem_of_getElem? (i := 1599) (by decide +kernel), List.mem_of_getElem? (i := 1600) (by decide +kernel)⟩
theorem lw_p77 : lw_okq (⟨"MirrorDrillModel", "readLine", "()V"⟩, 80) := ⟨⟨by decide +kernel, by decide +kernel⟩, List.mem_of_getElem? (i := 1292) (by decide +kernel), List.mem_of_getElem? (i := 1603) (by decide +kernel), List.mem_of_getElem? (i := 1604) (by decide +kernel)⟩
theorem lw_p78 : lw_okq (⟨"MirrorDrillModel", "isFull", "()Z"⟩, 80) := ⟨⟨by decide +kernel, by decide +kernel⟩, List.mem_of_getElem? (i := 1292) (by decide +kernel), List.mem_of_getElem? (i := 1607) (by decide +kernel), List.mem_of_getElem? (i := 1608) (by decide +kernel)⟩
theorem lw_p79 : lw_okq (⟨"MirrorDrillModel", "isWord", "(J)Z"⟩, 80) := ⟨⟨by decide +kernel, by decide +kernel⟩, List.mem_of_getElem? (i := 1292) (by decide +kernel), List.mem_of_getElem? (i := 1611) (by decide +kernel), List.mem_of_getElem? (i := 1612) (by decide +kernel)⟩
def lw_privs_5 : List (MethodName × Nat) := [(⟨"MirrorDrill$Witness", "tryAll", "()V"⟩, 17), (⟨"MirrorDrill$Witness", "listUnsure", "()I"⟩, 17), (⟨"MirrorDrill$Witness", "rowOfCase", "(II)J"⟩, 17), (⟨"MirrorDrill$Witness", "holds", "(JIII)Z"⟩, 17), (⟨"MirrorDrill$Witness", "isAsSeen", "(JI)Z"⟩, 17), (⟨"MirrorDrill$Witness", "noteMoves", "(JI)V"⟩, 17), (⟨"MirrorDrillModel", "clearBank", "()V"⟩, 80), (⟨"MirrorDrillModel", "begin", "()V"⟩, 80), (⟨"MirrorDrillModel", "layFirst", "()V"⟩, 80), (⟨"MirrorDrillModel", "keepNow", "()V"⟩, 80), (⟨"MirrorDrillModel", "goOn", "()V"⟩, 80), (⟨"MirrorDrillModel", "sign", "(I)I"⟩, 80), (⟨"MirrorDrillModel", "isGood", "()Z"⟩, 80), (⟨"MirrorDrillModel", "readLine", "()V"⟩, 80), (⟨"MirrorDrillModel", "isFull", "()Z"⟩, 80), (⟨"MirrorDrillModel", "isWord", "(J)Z"⟩, 80)]
theorem lw_r5 : ∀ q ∈ lw_privs_5, lw_okq q := List.forall_mem_cons.mpr ⟨lw_p64, List.forall_mem_cons.mpr ⟨lw_p65, List.forall_mem_cons.mpr ⟨lw_p66, List.forall_mem_cons.mpr ⟨lw_p67, List.forall_mem_cons.mpr ⟨lw_p68, List.forall_mem_cons.mpr ⟨lw_p69, List.forall_mem_cons.mpr ⟨lw_p70, List.forall_mem_cons.mpr ⟨lw_p71, List.forall_mem_cons.mpr ⟨lw_p72, List.forall_mem_cons.mpr ⟨lw_p73, List.forall_mem_cons.mpr ⟨lw_p74, List.forall_mem_cons.mpr ⟨lw_p75, List.forall_mem_cons.mpr ⟨lw_p76, List.forall_mem_cons.mpr ⟨lw_p77, List.forall_mem_cons.mpr ⟨lw_p78, List.forall_mem_cons.mpr ⟨lw_p79, fun _ h => absurd h List.not_mem_nil⟩⟩⟩⟩⟩⟩⟩⟩⟩⟩⟩⟩⟩⟩⟩⟩
theorem lw_p80 : lw_okq (⟨"MirrorDrillModel", "misplaced", "()V"⟩, 80) := ⟨⟨by decide +kernel, by decide +kernel⟩, List.mem_of_getElem? (i := 1292) (by decide +kernel), List.mem_of_getElem? (i := 1615) (by decide +kernel), List.mem_of_getElem? (i := 1616) (by decide +kernel)⟩
theorem lw_p81 : lw_okq (⟨"MirrorDrillModel", "fails", "(II)V"⟩, 80) := ⟨⟨by decide +kernel, by decide +kernel⟩, List.mem_of_getElem? (i := 1292) (by decide +kernel), List.mem_of_getElem? (i := 1619) (by decide +kernel), List.mem_of_getElem? (i := 1620) (by decide +kernel)⟩
theorem lw_p82 : lw_okq (⟨"MirrorDrillModel", "numeral", "(II)I"⟩, 80) := ⟨⟨by decide +kernel, by decide +kernel⟩, List.mem_of_getElem? (i := 1292) (by decide +kernel), List.mem_of_getElem? (i := 1623) (by decide +kernel), List.mem_of_getElem? (i := 1624) (by decide +kernel)⟩
theorem lw_p83 : lw_okq (⟨"MirrorDrillModel", "readRule", "()V"⟩, 80) := ⟨⟨by decide +kernel, by decide +kernel⟩, List.mem_of_getElem? (i := 1292) (by decide +kernel), List.mem_of_getElem? (i := 1627) (by decide +kernel), List.mem_of_getElem? (i := 1628) (by decide +kernel)⟩
theorem lw_p84 : lw_okq (⟨"MirrorDrillModel", "ruleHere", "()I"⟩, 80) := ⟨⟨by decide +kernel, by decide +kernel⟩, List.mem_of_getElem? (i := 1292) (by decide +kernel), List.mem_of_getElem? (i := 1631) (by decide +kernel), List.mem_of_getElem? (i := 1632) (by decide +kernel)⟩
theorem lw_p85 : lw_okq (⟨"MirrorDrillModel", "e", "()V"⟩, 80) := ⟨⟨by decide +kernel, by decide +kernel⟩, List.mem_of_getElem? (i := 1292) (by decide +kernel), List.mem_of_getElem? (i := 1635) (by decide +kernel), List.mem_of_getElem? (i := 1636) (by decide +kernel)⟩
theorem lw_p86 : lw_okq (⟨"MirrorDrillModel", "pushE", "(II)V"⟩, 80) := ⟨⟨by decide +kernel, by decide +kernel⟩, List.mem_of_getElem? (i := 1292) (by decide +kernel), List.mem_of_getElem? (i := 1639) (by decide +kernel), List.mem_of_getElem? (i := 1640) (by decide +kernel)⟩
theorem lw_p87 : lw_okq (⟨"MirrorDrillModel", "unit", "()Z"⟩, 80) := ⟨⟨by decide +kernel, by decide +kernel⟩, List.mem_of_getElem? (i := 1292) (by decide +kernel), List.mem_of_getElem? (i := 1643) (by decide +kernel), List.mem_of_getElem? (i := 1644) (by decide +kernel)⟩
theorem lw_p88 : lw_okq (⟨"MirrorDrillModel", "isSignHere", "(I)Z"⟩, 80) := ⟨⟨by decide +kernel, by decide +kernel⟩, List.mem_of_getElem? (i := 1292) (by decide +kernel), List.mem_of_getElem? (i := 1647) (by decide +kernel), List.mem_of_getElem? (i := 1648) (by decide +kernel)⟩
theorem lw_p89 : lw_okq (⟨"MirrorDrillModel", "wordHere", "()I"⟩, 80) := ⟨⟨by decide +kernel, by decide +kernel⟩, List.mem_of_getElem? (i := 1292) (by decide +kernel), List.mem_of_getElem? (i := 1651) (by decide +kernel), List.mem_of_getElem? (i := 1652) (by decide +kernel)⟩
theorem lw_p90 : lw_okq (⟨"MirrorDrillModel", "emit", "(II)V"⟩, 80) := ⟨⟨by decide +kernel, by decide +kernel⟩, List.mem_of_getElem? (i := 1292) (by decide +kernel), List.mem_of_getElem? (i := 1655) (by decide +kernel), List.mem_of_getElem? (i := 1656) (by decide +kernel)⟩
theorem lw_p91 : lw_okq (⟨"MirrorDrillModel", "behindUnit", "()Z"⟩, 80) := ⟨⟨by decide +kernel, by decide +kernel⟩, List.mem_of_getElem? (i := 1292) (by decide +kernel), List.mem_of_getElem? (i := 1659) (by decide +kernel), List.mem_of_getElem? (i := 1660) (by decide +kernel)⟩
theorem lw_p92 : lw_okq (⟨"MirrorDrillModel", "rankHere", "()I"⟩, 80) := ⟨⟨by decide +kernel, by decide +kernel⟩, List.mem_of_getElem? (i := 1292) (by decide +kernel), List.mem_of_getElem? (i := 1663) (by decide +kernel), List.mem_of_getElem? (i := 1664) (by decide +kernel)⟩
theorem lw_p93 : lw_okq (⟨"MirrorDrillModel", "isCompared", "()Z"⟩, 80) := ⟨⟨by decide +kernel, by decide +kernel⟩, List.mem_of_getElem? (i := 1292) (by decide +kernel), List.mem_of_getElem? (i := 1667) (by decide +kernel), List.mem_of_getElem? (i := 1668) (by decide +kernel)⟩
theorem lw_p94 : lw_okq (⟨"MirrorDrillModel", "must", "(Z)V"⟩, 80) := ⟨⟨by decide +kernel, by decide +kernel⟩, List.mem_of_getElem? (i := 1292) (by decide +kernel), List.mem_of_getElem? (i := 1671) (by decide +kernel), List.mem_of_getElem? (i := 1672) (by decide +kernel)⟩
theorem lw_p95 : lw_okq (⟨"MirrorDrillModel", "readMan", "()V"⟩, 80) := ⟨⟨by decide +kernel, by decide +kernel⟩, List.mem_of_getElem? (i := 1292) (by decide +kernel), List.mem_of_getElem? (i := 1675) (by decide +kernel), List.mem_of_getElem? (i := 1676) (by decide +kernel)⟩
def lw_privs_6 : List (MethodName × Nat) := [(⟨"MirrorDrillModel", "misplaced", "()V"⟩, 80), (⟨"MirrorDrillModel", "fails", "(II)V"⟩, 80), (⟨"MirrorDrillModel", "numeral", "(II)I"⟩, 80), (⟨"MirrorDrillModel", "readRule", "()V"⟩, 80), (⟨"MirrorDrillModel", "ruleHere", "()I"⟩, 80), (⟨"MirrorDrillModel", "e", "()V"⟩, 80), (⟨"MirrorDrillModel", "pushE", "(II)V"⟩, 80), (⟨"MirrorDrillModel", "unit", "()Z"⟩, 80), (⟨"MirrorDrillModel", "isSignHere", "(I)Z"⟩, 80), (⟨"MirrorDrillModel", "wordHere", "()I"⟩, 80), (⟨"MirrorDrillModel", "emit", "(II)V"⟩, 80), (⟨"MirrorDrillModel", "behindUnit", "()Z"⟩, 80), (⟨"MirrorDrillModel", "rankHere", "()I"⟩, 80), (⟨"MirrorDrillModel", "isCompared", "()Z"⟩, 80), (⟨"MirrorDrillModel", "must", "(Z)V"⟩, 80), (⟨"MirrorDrillModel", "readMan", "()V"⟩, 80)]
theorem lw_r6 : ∀ q ∈ lw_privs_6, lw_okq q := List.forall_mem_cons.mpr ⟨lw_p80, List.forall_mem_cons.mpr ⟨lw_p81, List.forall_mem_cons.mpr ⟨lw_p82, List.forall_mem_cons.mpr ⟨lw_p83, List.forall_mem_cons.mpr ⟨lw_p84, List.forall_mem_cons.mpr ⟨lw_p85, List.forall_mem_cons.mpr ⟨lw_p86, List.forall_mem_cons.mpr ⟨lw_p87, List.forall_mem_cons.mpr ⟨lw_p88, List.forall_mem_cons.mpr ⟨lw_p89, List.forall_mem_cons.mpr ⟨lw_p90, List.forall_mem_cons.mpr ⟨lw_p91, List.forall_mem_cons.mpr ⟨lw_p92, List.forall_mem_cons.mpr ⟨lw_p93, List.forall_mem_cons.mpr ⟨lw_p94, List.forall_mem_cons.mpr ⟨lw_p95, fun _ h => absurd h List.not_mem_nil⟩⟩⟩⟩⟩⟩⟩⟩⟩⟩⟩⟩⟩⟩⟩⟩
theorem lw_p96 : lw_okq (⟨"MirrorDrillModel", "readBy", "(I)V"⟩, 80) := ⟨⟨by decide +kernel, by decide +kernel⟩, List.mem_of_getElem? (i := 1292) (by decide +kernel), List.mem_of_getElem? (i := 1679) (by decide +kernel), List.mem_of_getElem? (i := 1680) (by decide +kernel)⟩
theorem lw_p97 : lw_okq (⟨"MirrorDrillModel", "flag", "(J)Z"⟩, 80) := ⟨⟨by decide +kernel, by decide +kernel⟩, List.mem_of_getElem? (i := 1292) (by decide +kernel), List.mem_of_getElem? (i := 1683) (by decide +kernel), List.mem_of_getElem? (i := 1684) (by decide +kernel)⟩
theorem lw_p98 : lw_okq (⟨"MirrorDrillModel", "layTables", "()V"⟩, 80) := ⟨⟨by decide +kernel, by decide +kernel⟩, List.mem_of_getElem? (i := 1292) (by decide +kernel), List.mem_of_getElem? (i := 1687) (by decide +kernel), List.mem_of_getElem? (i := 1688) (by decide +kernel)⟩
theorem lw_p99 : lw_okq (⟨"MirrorDrillModel", "comes", "(IIII)I"⟩, 80) := ⟨⟨by decide +kernel, by decide +kernel⟩, List.mem_of_getElem? (i := 1292) (by decide +kernel), List.mem_of_getElem? (i := 1691) (by decide +kernel), List.mem_of_getElem? (i := 1692) (by decide +kernel)⟩
theorem lw_p100 : lw_okq (⟨"MirrorDrillModel", "isMan", "(I)Z"⟩, 80) := ⟨⟨by decide +kernel, by decide +kernel⟩, List.mem_of_getElem? (i := 1292) (by decide +kernel), List.mem_of_getElem? (i := 1706) (by decide +kernel), List.mem_of_getElem? (i := 1707) (by decide +kernel)⟩
theorem lw_p101 : lw_okq (⟨"MirrorDrillModel", "manyOf", "()I"⟩, 80) := ⟨⟨by decide +kernel, by decide +kernel⟩, List.mem_of_getElem? (i := 1292) (by decide +kernel), List.mem_of_getElem? (i := 1710) (by decide +kernel), List.mem_of_getElem? (i := 1711) (by decide +kernel)⟩
theorem lw_p102 : lw_okq (⟨"MirrorDrillModel", "isRule", "(I)Z"⟩, 80) := ⟨⟨by decide +kernel, by decide +kernel⟩, List.mem_of_getElem? (i := 1292) (by decide +kernel), List.mem_of_getElem? (i := 1721) (by decide +kernel), List.mem_of_getElem? (i := 1722) (by decide +kernel)⟩
theorem lw_p103 : lw_okq (⟨"MirrorDrillModel", "isMove", "(I)Z"⟩, 80) := ⟨⟨by decide +kernel, by decide +kernel⟩, List.mem_of_getElem? (i := 1292) (by decide +kernel), List.mem_of_getElem? (i := 1725) (by decide +kernel), List.mem_of_getElem? (i := 1726) (by decide +kernel)⟩
theorem lw_p104 : lw_okq (⟨"MirrorDrillModel", "makes", "(IIII)I"⟩, 80) := ⟨⟨by decide +kernel, by decide +kernel⟩, List.mem_of_getElem? (i := 1292) (by decide +kernel), List.mem_of_getElem? (i := 1729) (by decide +kernel), List.mem_of_getElem? (i := 1730) (by decide +kernel)⟩
theorem lw_p105 : lw_okq (⟨"MirrorDrillModel", "keepAct", "()V"⟩, 80) := ⟨⟨by decide +kernel, by decide +kernel⟩, List.mem_of_getElem? (i := 1292) (by decide +kernel), List.mem_of_getElem? (i := 1738) (by decide +kernel), List.mem_of_getElem? (i := 1739) (by decide +kernel)⟩
theorem lw_p106 : lw_okq (⟨"MirrorDrillModel", "layNow", "()V"⟩, 80) := ⟨⟨by decide +kernel, by decide +kernel⟩, List.mem_of_getElem? (i := 1292) (by decide +kernel), List.mem_of_getElem? (i := 1742) (by decide +kernel), List.mem_of_getElem? (i := 1743) (by decide +kernel)⟩
theorem lw_p107 : lw_okq (⟨"MirrorDrillModel", "beatTimes", "(I)V"⟩, 80) := ⟨⟨by decide +kernel, by decide +kernel⟩, List.mem_of_getElem? (i := 1292) (by decide +kernel), List.mem_of_getElem? (i := 1746) (by decide +kernel), List.mem_of_getElem? (i := 1747) (by decide +kernel)⟩
theorem lw_p108 : lw_okq (⟨"MirrorDrillModel", "beat", "()V"⟩, 80) := ⟨⟨by decide +kernel, by decide +kernel⟩, List.mem_of_getElem? (i := 1292) (by decide +kernel), List.mem_of_getElem? (i := 1750) (by decide +kernel), List.mem_of_getElem? (i := 1751) (by decide +kernel)⟩
theorem lw_p109 : lw_okq (⟨"MirrorDrillModel", "aheadOf", "(I)I"⟩, 80) := ⟨⟨by decide +kernel, by decide +kernel⟩, List.mem_of_getElem? (i := 1292) (by decide +kernel), List.mem_of_getElem? (i := 1754) (by decide +kernel), List.mem_of_getElem? (i := 1755) (by decide +kernel)⟩
theorem lw_p110 : lw_okq (⟨"MirrorDrillModel", "behindOf", "(I)I"⟩, 80) := ⟨⟨by decide +kernel, by decide +kernel⟩, List.mem_of_getElem? (i := 1292) (by decide +kernel), List.mem_of_getElem? (i := 1758) (by decide +kernel), List.mem_of_getElem? (i := 1759) (by decide +kernel)⟩
theorem lw_p111 : lw_okq (⟨"MirrorDrillModel", "after", "(IIII)I"⟩, 80) := ⟨⟨by decide +kernel, by decide +kernel⟩, List.mem_of_getElem? (i := 1292) (by decide +kernel), List.mem_of_getElem? (i := 1762) (by decide +kernel), List.mem_of_getElem? (i := 1763) (by decide +kernel)⟩
def lw_privs_7 : List (MethodName × Nat) := [(⟨"MirrorDrillModel", "readBy", "(I)V"⟩, 80), (⟨"MirrorDrillModel", "flag", "(J)Z"⟩, 80), (⟨"MirrorDrillModel", "layTables", "()V"⟩, 80), (⟨"MirrorDrillModel", "comes", "(IIII)I"⟩, 80), (⟨"MirrorDrillModel", "isMan", "(I)Z"⟩, 80), (⟨"MirrorDrillModel", "manyOf", "()I"⟩, 80), (⟨"MirrorDrillModel", "isRule", "(I)Z"⟩, 80), (⟨"MirrorDrillModel", "isMove", "(I)Z"⟩, 80), (⟨"MirrorDrillModel", "makes", "(IIII)I"⟩, 80), (⟨"MirrorDrillModel", "keepAct", "()V"⟩, 80), (⟨"MirrorDrillModel", "layNow", "()V"⟩, 80), (⟨"MirrorDrillModel", "beatTimes", "(I)V"⟩, 80), (⟨"MirrorDrillModel", "beat", "()V"⟩, 80), (⟨"MirrorDrillModel", "aheadOf", "(I)I"⟩, 80), (⟨"MirrorDrillModel", "behindOf", "(I)I"⟩, 80), (⟨"MirrorDrillModel", "after", "(IIII)I"⟩, 80)]
theorem lw_r7 : ∀ q ∈ lw_privs_7, lw_okq q := List.forall_mem_cons.mpr ⟨lw_p96, List.forall_mem_cons.mpr ⟨lw_p97, List.forall_mem_cons.mpr ⟨lw_p98, List.forall_mem_cons.mpr ⟨lw_p99, List.forall_mem_cons.mpr ⟨lw_p100, List.forall_mem_cons.mpr ⟨lw_p101, List.forall_mem_cons.mpr ⟨lw_p102, List.forall_mem_cons.mpr ⟨lw_p103, List.forall_mem_cons.mpr ⟨lw_p104, List.forall_mem_cons.mpr ⟨lw_p105, List.forall_mem_cons.mpr ⟨lw_p106, List.forall_mem_cons.mpr ⟨lw_p107, List.forall_mem_cons.mpr ⟨lw_p108, List.forall_mem_cons.mpr ⟨lw_p109, List.forall_mem_cons.mpr ⟨lw_p110, List.forall_mem_cons.mpr ⟨lw_p111, fun _ h => absurd h List.not_mem_nil⟩⟩⟩⟩⟩⟩⟩⟩⟩⟩⟩⟩⟩⟩⟩⟩
theorem lw_p112 : lw_okq (⟨"MirrorDrillModel", "stays", "(I)Z"⟩, 80) := ⟨⟨by decide +kernel, by decide +kernel⟩, List.mem_of_getElem? (i := 1292) (by decide +kernel), List.mem_of_getElem? (i := 1766) (by decide +kernel), List.mem_of_getElem? (i := 1767) (by decide +kernel)⟩
theorem lw_p113 : lw_okq (⟨"MirrorDrillModel", "windowOf", "(I)I"⟩, 80) := ⟨⟨by decide +kernel, by decide +kernel⟩, List.mem_of_getElem? (i := 1292) (by decide +kernel), List.mem_of_getElem? (i := 1770) (by decide +kernel), List.mem_of_getElem? (i := 1771) (by decide +kernel)⟩
theorem lw_p114 : lw_okq (⟨"MirrorDrillModel", "exchange", "()V"⟩, 80) := ⟨⟨by decide +kernel, by decide +kernel⟩, List.mem_of_getElem? (i := 1292) (by decide +kernel), List.mem_of_getElem? (i := 1782) (by decide +kernel), List.mem_of_getElem? (i := 1783) (by decide +kernel)⟩
theorem lw_p115 : lw_okq (⟨"MirrorDrillModel", "layRound", "()Z"⟩, 80) := ⟨⟨by decide +kernel, by decide +kernel⟩, List.mem_of_getElem? (i := 1292) (by decide +kernel), List.mem_of_getElem? (i := 1798) (by decide +kernel), List.mem_of_getElem? (i := 1799) (by decide +kernel)⟩
theorem lw_p116 : lw_okq (⟨"MirrorDrillModel", "rowNumber", "()J"⟩, 80) := ⟨⟨by decide +kernel, by decide +kernel⟩, List.mem_of_getElem? (i := 1292) (by decide +kernel), List.mem_of_getElem? (i := 1802) (by decide +kernel), List.mem_of_getElem? (i := 1803) (by decide +kernel)⟩
theorem lw_p117 : lw_okq (⟨"MirrorDrillModel", "countAhead", "()J"⟩, 80) := ⟨⟨by decide +kernel, by decide +kernel⟩, List.mem_of_getElem? (i := 1292) (by decide +kernel), List.mem_of_getElem? (i := 1810) (by decide +kernel), List.mem_of_getElem? (i := 1811) (by decide +kernel)⟩
theorem lw_p118 : lw_okq (⟨"MirrorDrillModel", "mayDo", "(II)Z"⟩, 80) := ⟨⟨by decide +kernel, by decide +kernel⟩, List.mem_of_getElem? (i := 1292) (by decide +kernel), List.mem_of_getElem? (i := 1814) (by decide +kernel), List.mem_of_getElem? (i := 1815) (by decide +kernel)⟩
theorem lw_p119 : lw_okq (⟨"MirrorDrillModel", "countFrom", "(II)J"⟩, 80) := ⟨⟨by decide +kernel, by decide +kernel⟩, List.mem_of_getElem? (i := 1292) (by decide +kernel), List.mem_of_getElem? (i := 1818) (by decide +kernel), List.mem_of_getElem? (i := 1819) (by decide +kernel)⟩
theorem lw_p120 : lw_okq (⟨"MirrorDrillModel", "allPairs", "()I"⟩, 80) := ⟨⟨by decide +kernel, by decide +kernel⟩, List.mem_of_getElem? (i := 1292) (by decide +kernel), List.mem_of_getElem? (i := 1830) (by decide +kernel), List.mem_of_getElem? (i := 1831) (by decide +kernel)⟩
theorem lw_p121 : lw_okq (⟨"MirrorDrillModel", "stepSet", "(III)I"⟩, 80) := ⟨⟨by decide +kernel, by decide +kernel⟩, List.mem_of_getElem? (i := 1292) (by decide +kernel), List.mem_of_getElem? (i := 1834) (by decide +kernel), List.mem_of_getElem? (i := 1835) (by decide +kernel)⟩
theorem lw_p122 : lw_okq (⟨"MirrorDrillModel", "layOrphan", "()I"⟩, 80) := ⟨⟨by decide +kernel, by decide +kernel⟩, List.mem_of_getElem? (i := 1292) (by decide +kernel), List.mem_of_getElem? (i := 1838) (by decide +kernel), List.mem_of_getElem? (i := 1839) (by decide +kernel)⟩
theorem lw_p123 : lw_okq (⟨"MirrorDrillModel", "isPair", "(I)Z"⟩, 80) := ⟨⟨by decide +kernel, by decide +kernel⟩, List.mem_of_getElem? (i := 1292) (by decide +kernel), List.mem_of_getElem? (i := 1846) (by decide +kernel), List.mem_of_getElem? (i := 1847) (by decide +kernel)⟩
theorem lw_p124 : lw_okq (⟨"MirrorDrillModel", "hasNext", "(IIZ)Z"⟩, 80) := ⟨⟨by decide +kernel, by decide +kernel⟩, List.mem_of_getElem? (i := 1292) (by decide +kernel), List.mem_of_getElem? (i := 1850) (by decide +kernel), List.mem_of_getElem? (i := 1851) (by decide +kernel)⟩
theorem lw_p125 : lw_okq (⟨"MirrorDrillModel", "leads", "(III)Z"⟩, 80) := ⟨⟨by decide +kernel, by decide +kernel⟩, List.mem_of_getElem? (i := 1292) (by decide +kernel), List.mem_of_getElem? (i := 1854) (by decide +kernel), List.mem_of_getElem? (i := 1855) (by decide +kernel)⟩
theorem lw_p126 : lw_okq (⟨"MirrorDrillModel", "isSame", "(III)Z"⟩, 80) := ⟨⟨by decide +kernel, by decide +kernel⟩, List.mem_of_getElem? (i := 1292) (by decide +kernel), List.mem_of_getElem? (i := 1862) (by decide +kernel), List.mem_of_getElem? (i := 1863) (by decide +kernel)⟩
theorem lw_p127 : lw_okq (⟨"MirrorDrillModel", "otherMove", "(II)I"⟩, 80) := ⟨⟨by decide +kernel, by decide +kernel⟩, List.mem_of_getElem? (i := 1292) (by decide +kernel), List.mem_of_getElem? (i := 1874) (by decide +kernel), List.mem_of_getElem? (i := 1875) (by decide +kernel)⟩
def lw_privs_8 : List (MethodName × Nat) := [(⟨"MirrorDrillModel", "stays", "(I)Z"⟩, 80), (⟨"MirrorDrillModel", "windowOf", "(I)I"⟩, 80), (⟨"MirrorDrillModel", "exchange", "()V"⟩, 80), (⟨"MirrorDrillModel", "layRound", "()Z"⟩, 80), (⟨"MirrorDrillModel", "rowNumber", "()J"⟩, 80), (⟨"MirrorDrillModel", "countAhead", "()J"⟩, 80), (⟨"MirrorDrillModel", "mayDo", "(II)Z"⟩, 80), (⟨"MirrorDrillModel", "countFrom", "(II)J"⟩, 80), (⟨"MirrorDrillModel", "allPairs", "()I"⟩, 80), (⟨"MirrorDrillModel", "stepSet", "(III)I"⟩, 80), (⟨"MirrorDrillModel", "layOrphan", "()I"⟩, 80), (⟨"MirrorDrillModel", "isPair", "(I)Z"⟩, 80), (⟨"MirrorDrillModel", "hasNext", "(IIZ)Z"⟩, 80), (⟨"MirrorDrillModel", "leads", "(III)Z"⟩, 80), (⟨"MirrorDrillModel", "isSame", "(III)Z"⟩, 80), (⟨"MirrorDrillModel", "otherMove", "(II)I"⟩, 80)]
theorem lw_r8 : ∀ q ∈ lw_privs_8, lw_okq q := List.forall_mem_cons.mpr ⟨lw_p112, List.forall_mem_cons.mpr ⟨lw_p113, List.forall_mem_cons.mpr ⟨lw_p114, List.forall_mem_cons.mpr ⟨lw_p115, List.forall_mem_cons.mpr ⟨lw_p116, List.forall_mem_cons.mpr ⟨lw_p117, List.forall_mem_cons.mpr ⟨lw_p118, List.forall_mem_cons.mpr ⟨lw_p119, List.forall_mem_cons.mpr ⟨lw_p120, List.forall_mem_cons.mpr ⟨lw_p121, List.forall_mem_cons.mpr ⟨lw_p122, List.forall_mem_cons.mpr ⟨lw_p123, List.forall_mem_cons.mpr ⟨lw_p124, List.forall_mem_cons.mpr ⟨lw_p125, List.forall_mem_cons.mpr ⟨lw_p126, List.forall_mem_cons.mpr ⟨lw_p127, fun _ h => absurd h List.not_mem_nil⟩⟩⟩⟩⟩⟩⟩⟩⟩⟩⟩⟩⟩⟩⟩⟩
theorem lw_p128 : lw_okq (⟨"MirrorDrillModel", "isSoBy", "(IIII)Z"⟩, 80) := ⟨⟨by decide +kernel, by decide +kernel⟩, List.mem_of_getElem? (i := 1292) (by decide +kernel), List.mem_of_getElem? (i := 1878) (by decide +kernel), List.mem_of_getElem? (i := 1879) (by decide +kernel)⟩
theorem lw_p129 : lw_okq (⟨"MirrorDrillModel", "layGlint", "(I)I"⟩, 80) := ⟨⟨by decide +kernel, by decide +kernel⟩, List.mem_of_getElem? (i := 1292) (by decide +kernel), List.mem_of_getElem? (i := 1882) (by decide +kernel), List.mem_of_getElem? (i := 1883) (by decide +kernel)⟩
theorem lw_p130 : lw_okq (⟨"MirrorDrillModel", "nextMoves", "(I)Z"⟩, 80) := ⟨⟨by decide +kernel, by decide +kernel⟩, List.mem_of_getElem? (i := 1292) (by decide +kernel), List.mem_of_getElem? (i := 1886) (by decide +kernel), List.mem_of_getElem? (i := 1887) (by decide +kernel)⟩
theorem lw_p131 : lw_okq (⟨"MirrorDrillModel", "nextMen", "(I)Z"⟩, 80) := ⟨⟨by decide +kernel, by decide +kernel⟩, List.mem_of_getElem? (i := 1292) (by decide +kernel), List.mem_of_getElem? (i := 1890) (by decide +kernel), List.mem_of_getElem? (i := 1891) (by decide +kernel)⟩
theorem lw_p132 : lw_okq (⟨"MirrorDrillModel", "layCracks", "(I)I"⟩, 80) := ⟨⟨by decide +kernel, by decide +kernel⟩, List.mem_of_getElem? (i := 1292) (by decide +kernel), List.mem_of_getElem? (i := 1898) (by decide +kernel), List.mem_of_getElem? (i := 1899) (by decide +kernel)⟩
theorem lw_p133 : lw_okq (⟨"MirrorDrillModel", "orphanAt", "(I)I"⟩, 80) := ⟨⟨by decide +kernel, by decide +kernel⟩, List.mem_of_getElem? (i := 1292) (by decide +kernel), List.mem_of_getElem? (i := 1906) (by decide +kernel), List.mem_of_getElem? (i := 1907) (by decide +kernel)⟩
theorem lw_p134 : lw_okq (⟨"MirrorDrillModel", "layCase", "(I)V"⟩, 80) := ⟨⟨by decide +kernel, by decide +kernel⟩, List.mem_of_getElem? (i := 1292) (by decide +kernel), List.mem_of_getElem? (i := 1933) (by decide +kernel), List.mem_of_getElem? (i := 1934) (by decide +kernel)⟩
theorem lw_p135 : lw_okq (⟨"MirrorDrillModel", "areSo", "(I)Z"⟩, 80) := ⟨⟨by decide +kernel, by decide +kernel⟩, List.mem_of_getElem? (i := 1292) (by decide +kernel), List.mem_of_getElem? (i := 1937) (by decide +kernel), List.mem_of_getElem? (i := 1938) (by decide +kernel)⟩
theorem lw_p136 : lw_okq (⟨"MirrorDrillModel", "isCase", "(I)Z"⟩, 80) := ⟨⟨by decide +kernel, by decide +kernel⟩, List.mem_of_getElem? (i := 1292) (by decide +kernel), List.mem_of_getElem? (i := 1950) (by decide +kernel), List.mem_of_getElem? (i := 1951) (by decide +kernel)⟩
theorem lw_p137 : lw_okq (⟨"MirrorDrillModel", "canCrack", "(II)Z"⟩, 80) := ⟨⟨by decide +kernel, by decide +kernel⟩, List.mem_of_getElem? (i := 1292) (by decide +kernel), List.mem_of_getElem? (i := 1954) (by decide +kernel), List.mem_of_getElem? (i := 1955) (by decide +kernel)⟩
theorem lw_p138 : lw_okq (⟨"MirrorDrillModel", "canSee", "(II)Z"⟩, 80) := ⟨⟨by decide +kernel, by decide +kernel⟩, List.mem_of_getElem? (i := 1292) (by decide +kernel), List.mem_of_getElem? (i := 1958) (by decide +kernel), List.mem_of_getElem? (i := 1959) (by decide +kernel)⟩
def lw_privs_9 : List (MethodName × Nat) := [(⟨"MirrorDrillModel", "isSoBy", "(IIII)Z"⟩, 80), (⟨"MirrorDrillModel", "layGlint", "(I)I"⟩, 80), (⟨"MirrorDrillModel", "nextMoves", "(I)Z"⟩, 80), (⟨"MirrorDrillModel", "nextMen", "(I)Z"⟩, 80), (⟨"MirrorDrillModel", "layCracks", "(I)I"⟩, 80), (⟨"MirrorDrillModel", "orphanAt", "(I)I"⟩, 80), (⟨"MirrorDrillModel", "layCase", "(I)V"⟩, 80), (⟨"MirrorDrillModel", "areSo", "(I)Z"⟩, 80), (⟨"MirrorDrillModel", "isCase", "(I)Z"⟩, 80), (⟨"MirrorDrillModel", "canCrack", "(II)Z"⟩, 80), (⟨"MirrorDrillModel", "canSee", "(II)Z"⟩, 80)]
theorem lw_r9 : ∀ q ∈ lw_privs_9, lw_okq q := List.forall_mem_cons.mpr ⟨lw_p128, List.forall_mem_cons.mpr ⟨lw_p129, List.forall_mem_cons.mpr ⟨lw_p130, List.forall_mem_cons.mpr ⟨lw_p131, List.forall_mem_cons.mpr ⟨lw_p132, List.forall_mem_cons.mpr ⟨lw_p133, List.forall_mem_cons.mpr ⟨lw_p134, List.forall_mem_cons.mpr ⟨lw_p135, List.forall_mem_cons.mpr ⟨lw_p136, List.forall_mem_cons.mpr ⟨lw_p137, List.forall_mem_cons.mpr ⟨lw_p138, fun _ h => absurd h List.not_mem_nil⟩⟩⟩⟩⟩⟩⟩⟩⟩⟩⟩
def lw_privs : List (MethodName × Nat) := lw_privs_1 ++ (lw_privs_2 ++ (lw_privs_3 ++ (lw_privs_4 ++ (lw_privs_5 ++ (lw_privs_6 ++ (lw_privs_7 ++ (lw_privs_8 ++ (lw_privs_9))))))))
def lw_tbl : List Cond := k2_sels lw_privs ++ tables_1
theorem lw_privs_ok : ∀ q ∈ lw_privs, lw_okq q := by
  show ∀ q ∈ lw_privs_1 ++ (lw_privs_2 ++ (lw_privs_3 ++ (lw_privs_4 ++ (lw_privs_5 ++ (lw_privs_6 ++ (lw_privs_7 ++ (lw_privs_8 ++ (lw_privs_9)))))))), lw_okq q
  exact List.forall_mem_append.mpr ⟨lw_r1, List.forall_mem_append.mpr ⟨lw_r2, List.forall_mem_append.mpr ⟨lw_r3, List.forall_mem_append.mpr ⟨lw_r4, List.forall_mem_append.mpr ⟨lw_r5, List.forall_mem_append.mpr ⟨lw_r6, List.forall_mem_append.mpr ⟨lw_r7, List.forall_mem_append.mpr ⟨lw_r8, lw_r9⟩⟩⟩⟩⟩⟩⟩⟩
end
section
def RX0 : String := "MirrorDrill$Changes"
def TX0 : u_T := fun k => match k with
  | 0 => ("MirrorDrill$Changes", "drill", "LMirrorDrill$Drill;", false)
  | 1 => ("MirrorDrill$Changes", "start", "J", false)
  | 2 => ("MirrorDrill$Changes", "target", "I", false)
  | 3 => ("MirrorDrill$Changes", "wanted", "I", false)
  | 4 => ("MirrorDrill$Changes", "beats", "I", false)
  | 5 => ("MirrorDrill$Changes", "plain", "[J", true)
  | 6 => ("MirrorDrill$Changes", "size", "I", false)
  | 7 => ("MirrorDrill$Changes", "men", "[I", true)
  | _ => ("MirrorDrill$Changes", "moves", "[I", true)
def tyX0 : Nat → FieldType := fun k => match k with
  | 0 => .object "MirrorDrill$Drill"
  | 1 => .long
  | 2 => .int
  | 3 => .int
  | 4 => .int
  | 5 => .array .long
  | 6 => .int
  | 7 => .array .int
  | _ => .array .int
abbrev wsX00 : List Cond := u_ws RX0 TX0 9
theorem nmX0 : ∀ a, a < 9 → ∀ b, b < 9 → a ≠ b → (TX0 a).2.1 ≠ (TX0 b).2.1 := by decide +kernel
theorem tyX0_ok : ∀ k, k < 9 → parseFieldDescriptor (TX0 k).2.2.1 = some (tyX0 k) := by decide +kernel
abbrev cX0_init : ByteArray := prog_2_method_1_code
def yX0_init : MethodName := ⟨RX0, "<init>", "()V"⟩
abbrev cX0_aim : ByteArray := prog_2_method_2_code
def yX0_aim : MethodName := ⟨RX0, "aim", "(LMirrorDrill$Drill;JIII)V"⟩
abbrev cX0_isSoAnyway : ByteArray := prog_2_method_3_code
def yX0_isSoAnyway : MethodName := ⟨RX0, "isSoAnyway", "()Z"⟩
abbrev cX0_fewestOrdered : ByteArray := prog_2_method_4_code
def yX0_fewestOrdered : MethodName := ⟨RX0, "fewestOrdered", "(LMirrorDrill$Pile;)I"⟩
abbrev cX0_layMen : ByteArray := prog_2_method_5_code
def yX0_layMen : MethodName := ⟨RX0, "layMen", "(LMirrorDrill$Pile;)V"⟩
abbrev cX0_orderMen : ByteArray := prog_2_method_6_code
def yX0_orderMen : MethodName := ⟨RX0, "orderMen", "(II)Z"⟩
abbrev cX0_orderMoves : ByteArray := prog_2_method_7_code
def yX0_orderMoves : MethodName := ⟨RX0, "orderMoves", "(IJ)Z"⟩
abbrev cX0_comesTrue : ByteArray := prog_2_method_8_code
def yX0_comesTrue : MethodName := ⟨RX0, "comesTrue", "(J)Z"⟩
abbrev cX0_fewestCracked : ByteArray := prog_2_method_9_code
def yX0_fewestCracked : MethodName := ⟨RX0, "fewestCracked", "(LMirrorDrill$Pile;)I"⟩
abbrev cX0_crackMen : ByteArray := prog_2_method_10_code
def yX0_crackMen : MethodName := ⟨RX0, "crackMen", "(IIJ)Z"⟩
abbrev cX0_comesTrueCracked : ByteArray := prog_2_method_11_code
def yX0_comesTrueCracked : MethodName := ⟨RX0, "comesTrueCracked", "(J)Z"⟩
def RX1 : String := "MirrorDrill$Course"
def TX1 : u_T := fun k => match k with
  | 0 => ("MirrorDrill$Course", "rows", "[J", false)
  | 1 => ("MirrorDrill$Course", "known", "Z", false)
  | 2 => ("MirrorDrill$Course", "knownRow", "J", false)
  | 3 => ("MirrorDrill$Course", "tail", "I", false)
  | _ => ("MirrorDrill$Course", "loop", "I", false)
def tyX1 : Nat → FieldType := fun k => match k with
  | 0 => .array .long
  | 1 => .boolean
  | 2 => .long
  | 3 => .int
  | _ => .int
abbrev wsX10 : List Cond := u_ws RX1 TX1 5
theorem nmX1 : ∀ a, a < 5 → ∀ b, b < 5 → a ≠ b → (TX1 a).2.1 ≠ (TX1 b).2.1 := by decide +kernel
theorem tyX1_ok : ∀ k, k < 5 → parseFieldDescriptor (TX1 k).2.2.1 = some (tyX1 k) := by decide +kernel
abbrev cX1_init : ByteArray := prog_3_method_1_code
def yX1_init : MethodName := ⟨RX1, "<init>", "()V"⟩
abbrev cX1_forget : ByteArray := prog_3_method_2_code
def yX1_forget : MethodName := ⟨RX1, "forget", "()V"⟩
abbrev cX1_tail : ByteArray := prog_3_method_3_code
def yX1_tail : MethodName := ⟨RX1, "tail", "()I"⟩
abbrev cX1_loop : ByteArray := prog_3_method_4_code
def yX1_loop : MethodName := ⟨RX1, "loop", "()I"⟩
abbrev cX1_comesRound : ByteArray := prog_3_method_5_code
def yX1_comesRound : MethodName := ⟨RX1, "comesRound", "(LMirrorDrill$Drill;J)Z"⟩
abbrev cX1_follow : ByteArray := prog_3_method_6_code
def yX1_follow : MethodName := ⟨RX1, "follow", "(LMirrorDrill$Drill;J)V"⟩
abbrev cX1_findLoop : ByteArray := prog_3_method_7_code
def yX1_findLoop : MethodName := ⟨RX1, "findLoop", "(LMirrorDrill$Drill;J)I"⟩
def RX2 : String := "MirrorDrill$Drill"
def TX2 : u_T := fun k => match k with
  | 0 => ("MirrorDrill$Drill", "moves", "I", false)
  | 1 => ("MirrorDrill$Drill", "men", "I", false)
  | 2 => ("MirrorDrill$Drill", "rules", "I", false)
  | 3 => ("MirrorDrill$Drill", "units", "I", false)
  | 4 => ("MirrorDrill$Drill", "edge", "I", false)
  | 5 => ("MirrorDrill$Drill", "ring", "Z", false)
  | 6 => ("MirrorDrill$Drill", "turned", "I", false)
  | 7 => ("MirrorDrill$Drill", "cracked", "I", false)
  | 8 => ("MirrorDrill$Drill", "first", "J", false)
  | 9 => ("MirrorDrill$Drill", "ruleOf", "[I", true)
  | 10 => ("MirrorDrill$Drill", "windows", "[I", true)
  | 11 => ("MirrorDrill$Drill", "worths", "[I", true)
  | 12 => ("MirrorDrill$Drill", "table", "[B", true)
  | 13 => ("MirrorDrill$Drill", "steps", "[B", false)
  | _ => ("MirrorDrill$Drill", "pairSteps", "[B", false)
def tyX2 : Nat → FieldType := fun k => match k with
  | 0 => .int
  | 1 => .int
  | 2 => .int
  | 3 => .int
  | 4 => .int
  | 5 => .boolean
  | 6 => .int
  | 7 => .int
  | 8 => .long
  | 9 => .array .int
  | 10 => .array .int
  | 11 => .array .int
  | 12 => .array .byte
  | 13 => .array .byte
  | _ => .array .byte
abbrev wsX20 : List Cond := u_ws RX2 TX2 15
theorem nmX2 : ∀ a, a < 15 → ∀ b, b < 15 → a ≠ b → (TX2 a).2.1 ≠ (TX2 b).2.1 := by decide +kernel
theorem tyX2_ok : ∀ k, k < 15 → parseFieldDescriptor (TX2 k).2.2.1 = some (tyX2 k) := by decide +kernel
abbrev cX2_init : ByteArray := prog_4_method_1_code
def yX2_init : MethodName := ⟨RX2, "<init>", "()V"⟩
abbrev cX2_clear : ByteArray := prog_4_method_2_code
def yX2_clear : MethodName := ⟨RX2, "clear", "()V"⟩
abbrev cX2_isMan : ByteArray := prog_4_method_3_code
def yX2_isMan : MethodName := ⟨RX2, "isMan", "(I)Z"⟩
abbrev cX2_isMove : ByteArray := prog_4_method_4_code
def yX2_isMove : MethodName := ⟨RX2, "isMove", "(I)Z"⟩
abbrev cX2_isRule : ByteArray := prog_4_method_5_code
def yX2_isRule : MethodName := ⟨RX2, "isRule", "(I)Z"⟩
abbrev cX2_setMade : ByteArray := prog_4_method_6_code
def yX2_setMade : MethodName := ⟨RX2, "setMade", "(III)V"⟩
abbrev cX2_makes : ByteArray := prog_4_method_7_code
def yX2_makes : MethodName := ⟨RX2, "makes", "(II)I"⟩
abbrev cX2_settle : ByteArray := prog_4_method_8_code
def yX2_settle : MethodName := ⟨RX2, "settle", "()V"⟩
abbrev cX2_told : ByteArray := prog_4_method_9_code
def yX2_told : MethodName := ⟨RX2, "told", "(IIII)I"⟩
abbrev cX2_throughWindow : ByteArray := prog_4_method_10_code
def yX2_throughWindow : MethodName := ⟨RX2, "throughWindow", "(III)I"⟩
abbrev cX2_stays : ByteArray := prog_4_method_11_code
def yX2_stays : MethodName := ⟨RX2, "stays", "(I)Z"⟩
abbrev cX2_isCracked : ByteArray := prog_4_method_12_code
def yX2_isCracked : MethodName := ⟨RX2, "isCracked", "(I)Z"⟩
abbrev cX2_widened : ByteArray := prog_4_method_13_code
def yX2_widened : MethodName := ⟨RX2, "widened", "(J)J"⟩
abbrev cX2_doesBy : ByteArray := prog_4_method_14_code
def yX2_doesBy : MethodName := ⟨RX2, "doesBy", "(II)I"⟩
abbrev cX2_stepsOf : ByteArray := prog_4_method_15_code
def yX2_stepsOf : MethodName := ⟨RX2, "stepsOf", "(JII)J"⟩
abbrev cX2_after : ByteArray := prog_4_method_16_code
def yX2_after : MethodName := ⟨RX2, "after", "(J)J"⟩
abbrev cX2_afterNear : ByteArray := prog_4_method_17_code
def yX2_afterNear : MethodName := ⟨RX2, "afterNear", "(JII)J"⟩
abbrev cX2_isNear : ByteArray := prog_4_method_18_code
def yX2_isNear : MethodName := ⟨RX2, "isNear", "(III)Z"⟩
abbrev cX2_afterBeats : ByteArray := prog_4_method_19_code
def yX2_afterBeats : MethodName := ⟨RX2, "afterBeats", "(JI)J"⟩
abbrev cX2_worthOf : ByteArray := prog_4_method_20_code
def yX2_worthOf : MethodName := ⟨RX2, "worthOf", "(J)I"⟩
def RX3 : String := "MirrorDrill$Earnest"
def TX3 : u_T := fun k => match k with
  | 0 => ("MirrorDrill$Earnest", "rows", "[J", true)
  | 1 => ("MirrorDrill$Earnest", "beatsThen", "[I", true)
  | 2 => ("MirrorDrill$Earnest", "now", "I", false)
  | _ => ("MirrorDrill$Earnest", "last", "I", false)
def tyX3 : Nat → FieldType := fun k => match k with
  | 0 => .array .long
  | 1 => .array .int
  | 2 => .int
  | _ => .int
abbrev wsX30 : List Cond := u_ws RX3 TX3 4
theorem nmX3 : ∀ a, a < 4 → ∀ b, b < 4 → a ≠ b → (TX3 a).2.1 ≠ (TX3 b).2.1 := by decide +kernel
theorem tyX3_ok : ∀ k, k < 4 → parseFieldDescriptor (TX3 k).2.2.1 = some (tyX3 k) := by decide +kernel
abbrev cX3_init : ByteArray := prog_5_method_1_code
def yX3_init : MethodName := ⟨RX3, "<init>", "()V"⟩
abbrev cX3_begin : ByteArray := prog_5_method_2_code
def yX3_begin : MethodName := ⟨RX3, "begin", "(JI)V"⟩
abbrev cX3_row : ByteArray := prog_5_method_3_code
def yX3_row : MethodName := ⟨RX3, "row", "()J"⟩
abbrev cX3_beats : ByteArray := prog_5_method_4_code
def yX3_beats : MethodName := ⟨RX3, "beats", "()I"⟩
abbrev cX3_act : ByteArray := prog_5_method_5_code
def yX3_act : MethodName := ⟨RX3, "act", "(JI)V"⟩
abbrev cX3_takeBack : ByteArray := prog_5_method_6_code
def yX3_takeBack : MethodName := ⟨RX3, "takeBack", "()Z"⟩
abbrev cX3_doAgain : ByteArray := prog_5_method_7_code
def yX3_doAgain : MethodName := ⟨RX3, "doAgain", "()Z"⟩
abbrev cX3_actsDone : ByteArray := prog_5_method_8_code
def yX3_actsDone : MethodName := ⟨RX3, "actsDone", "()I"⟩
abbrev cX3_actsTakenBack : ByteArray := prog_5_method_9_code
def yX3_actsTakenBack : MethodName := ⟨RX3, "actsTakenBack", "()I"⟩
def RX4 : String := "MirrorDrill$Endless"
def TX4 : u_T := fun k => match k with
  | 0 => ("MirrorDrill$Endless", "drill", "LMirrorDrill$Drill;", false)
  | 1 => ("MirrorDrill$Endless", "rule", "I", false)
  | 2 => ("MirrorDrill$Endless", "moves", "I", false)
  | 3 => ("MirrorDrill$Endless", "pairs", "I", false)
  | 4 => ("MirrorDrill$Endless", "leads", "[J", true)
  | 5 => ("MirrorDrill$Endless", "queue", "[I", false)
  | 6 => ("MirrorDrill$Endless", "queued", "I", false)
  | 7 => ("MirrorDrill$Endless", "met", "[I", false)
  | 8 => ("MirrorDrill$Endless", "alike", "[I", true)
  | _ => ("MirrorDrill$Endless", "gains", "[I", true)
def tyX4 : Nat → FieldType := fun k => match k with
  | 0 => .object "MirrorDrill$Drill"
  | 1 => .int
  | 2 => .int
  | 3 => .int
  | 4 => .array .long
  | 5 => .array .int
  | 6 => .int
  | 7 => .array .int
  | 8 => .array .int
  | _ => .array .int
abbrev wsX40 : List Cond := u_ws RX4 TX4 10
theorem nmX4 : ∀ a, a < 10 → ∀ b, b < 10 → a ≠ b → (TX4 a).2.1 ≠ (TX4 b).2.1 := by decide +kernel
theorem tyX4_ok : ∀ k, k < 10 → parseFieldDescriptor (TX4 k).2.2.1 = some (tyX4 k) := by decide +kernel
abbrev cX4_init : ByteArray := prog_6_method_1_code
def yX4_init : MethodName := ⟨RX4, "<init>", "()V"⟩
abbrev cX4_take : ByteArray := prog_6_method_2_code
def yX4_take : MethodName := ⟨RX4, "take", "(LMirrorDrill$Drill;I)V"⟩
abbrev cX4_makes : ByteArray := prog_6_method_3_code
def yX4_makes : MethodName := ⟨RX4, "makes", "(III)I"⟩
abbrev cX4_leftOf : ByteArray := prog_6_method_4_code
def yX4_leftOf : MethodName := ⟨RX4, "leftOf", "(I)I"⟩
abbrev cX4_ownOf : ByteArray := prog_6_method_5_code
def yX4_ownOf : MethodName := ⟨RX4, "ownOf", "(I)I"⟩
abbrev cX4_shortestUnmade : ByteArray := prog_6_method_6_code
def yX4_shortestUnmade : MethodName := ⟨RX4, "shortestUnmade", "(LMirrorDrill$Drill;ILMirrorDrill$Pile;)I"⟩
abbrev cX4_layLeads : ByteArray := prog_6_method_7_code
def yX4_layLeads : MethodName := ⟨RX4, "layLeads", "()V"⟩
abbrev cX4_leadsOf : ByteArray := prog_6_method_8_code
def yX4_leadsOf : MethodName := ⟨RX4, "leadsOf", "(I)J"⟩
abbrev cX4_behind : ByteArray := prog_6_method_9_code
def yX4_behind : MethodName := ⟨RX4, "behind", "(I)J"⟩
abbrev cX4_beginQueue : ByteArray := prog_6_method_10_code
def yX4_beginQueue : MethodName := ⟨RX4, "beginQueue", "()V"⟩
abbrev cX4_enqueue : ByteArray := prog_6_method_11_code
def yX4_enqueue : MethodName := ⟨RX4, "enqueue", "(II)V"⟩
abbrev cX4_layWord : ByteArray := prog_6_method_12_code
def yX4_layWord : MethodName := ⟨RX4, "layWord", "(IILMirrorDrill$Pile;)I"⟩
abbrev cX4_moveBetween : ByteArray := prog_6_method_13_code
def yX4_moveBetween : MethodName := ⟨RX4, "moveBetween", "(II)I"⟩
abbrev cX4_isOneToOne : ByteArray := prog_6_method_14_code
def yX4_isOneToOne : MethodName := ⟨RX4, "isOneToOne", "(LMirrorDrill$Drill;I)Z"⟩
abbrev cX4_thinOut : ByteArray := prog_6_method_15_code
def yX4_thinOut : MethodName := ⟨RX4, "thinOut", "()Z"⟩
abbrev cX4_walkTogether : ByteArray := prog_6_method_16_code
def yX4_walkTogether : MethodName := ⟨RX4, "walkTogether", "(II)Z"⟩
abbrev cX4_goesOn : ByteArray := prog_6_method_17_code
def yX4_goesOn : MethodName := ⟨RX4, "goesOn", "(II)Z"⟩
abbrev cX4_cameFrom : ByteArray := prog_6_method_18_code
def yX4_cameFrom : MethodName := ⟨RX4, "cameFrom", "(II)Z"⟩
abbrev cX4_keepsWorth : ByteArray := prog_6_method_19_code
def yX4_keepsWorth : MethodName := ⟨RX4, "keepsWorth", "(LMirrorDrill$Drill;I)Z"⟩
abbrev cX4_isRing : ByteArray := prog_6_method_20_code
def yX4_isRing : MethodName := ⟨RX4, "isRing", "(II)Z"⟩
abbrev cX4_gainOf : ByteArray := prog_6_method_21_code
def yX4_gainOf : MethodName := ⟨RX4, "gainOf", "(II)I"⟩
def RX5 : String := "MirrorDrill$Forebears"
def TX5 : u_T := fun k => match k with
  | 0 => ("MirrorDrill$Forebears", "ways", "[J", false)
  | 1 => ("MirrorDrill$Forebears", "drill", "LMirrorDrill$Drill;", false)
  | 2 => ("MirrorDrill$Forebears", "goal", "J", false)
  | 3 => ("MirrorDrill$Forebears", "count", "J", false)
  | _ => ("MirrorDrill$Forebears", "firstKey", "J", false)
def tyX5 : Nat → FieldType := fun k => match k with
  | 0 => .array .long
  | 1 => .object "MirrorDrill$Drill"
  | 2 => .long
  | 3 => .long
  | _ => .long
abbrev wsX50 : List Cond := u_ws RX5 TX5 5
theorem nmX5 : ∀ a, a < 5 → ∀ b, b < 5 → a ≠ b → (TX5 a).2.1 ≠ (TX5 b).2.1 := by decide +kernel
theorem tyX5_ok : ∀ k, k < 5 → parseFieldDescriptor (TX5 k).2.2.1 = some (tyX5 k) := by decide +kernel
abbrev cX5_init : ByteArray := prog_7_method_1_code
def yX5_init : MethodName := ⟨RX5, "<init>", "()V"⟩
abbrev cX5_count : ByteArray := prog_7_method_2_code
def yX5_count : MethodName := ⟨RX5, "count", "()J"⟩
abbrev cX5_firstDoes : ByteArray := prog_7_method_3_code
def yX5_firstDoes : MethodName := ⟨RX5, "firstDoes", "(I)I"⟩
abbrev cX5_seek : ByteArray := prog_7_method_4_code
def yX5_seek : MethodName := ⟨RX5, "seek", "(LMirrorDrill$Drill;J)V"⟩
abbrev cX5_seekInRing : ByteArray := prog_7_method_5_code
def yX5_seekInRing : MethodName := ⟨RX5, "seekInRing", "()V"⟩
abbrev cX5_wayAt : ByteArray := prog_7_method_6_code
def yX5_wayAt : MethodName := ⟨RX5, "wayAt", "(III)I"⟩
abbrev cX5_layWays : ByteArray := prog_7_method_7_code
def yX5_layWays : MethodName := ⟨RX5, "layWays", "(II)V"⟩
abbrev cX5_waysAtEnd : ByteArray := prog_7_method_8_code
def yX5_waysAtEnd : MethodName := ⟨RX5, "waysAtEnd", "(IIII)J"⟩
abbrev cX5_waysBehind : ByteArray := prog_7_method_9_code
def yX5_waysBehind : MethodName := ⟨RX5, "waysBehind", "(III)J"⟩
abbrev cX5_leads : ByteArray := prog_7_method_10_code
def yX5_leads : MethodName := ⟨RX5, "leads", "(IIII)Z"⟩
abbrev cX5_addUp : ByteArray := prog_7_method_11_code
def yX5_addUp : MethodName := ⟨RX5, "addUp", "(II)V"⟩
abbrev cX5_keyOfFirst : ByteArray := prog_7_method_12_code
def yX5_keyOfFirst : MethodName := ⟨RX5, "keyOfFirst", "(II)J"⟩
abbrev cX5_firstBehind : ByteArray := prog_7_method_13_code
def yX5_firstBehind : MethodName := ⟨RX5, "firstBehind", "(III)I"⟩
def RX6 : String := "MirrorDrill$Pile"
def TX6 : u_T := fun k => match k with
  | 0 => ("MirrorDrill$Pile", "numbers", "[I", false)
  | _ => ("MirrorDrill$Pile", "count", "I", false)
def tyX6 : Nat → FieldType := fun k => match k with
  | 0 => .array .int
  | _ => .int
abbrev wsX60 : List Cond := u_ws RX6 TX6 2
theorem nmX6 : ∀ a, a < 2 → ∀ b, b < 2 → a ≠ b → (TX6 a).2.1 ≠ (TX6 b).2.1 := by decide +kernel
theorem tyX6_ok : ∀ k, k < 2 → parseFieldDescriptor (TX6 k).2.2.1 = some (tyX6 k) := by decide +kernel
abbrev cX6_init : ByteArray := prog_8_method_1_code
def yX6_init : MethodName := ⟨RX6, "<init>", "()V"⟩
abbrev cX6_clear : ByteArray := prog_8_method_2_code
def yX6_clear : MethodName := ⟨RX6, "clear", "()V"⟩
abbrev cX6_size : ByteArray := prog_8_method_3_code
def yX6_size : MethodName := ⟨RX6, "size", "()I"⟩
abbrev cX6_number : ByteArray := prog_8_method_4_code
def yX6_number : MethodName := ⟨RX6, "number", "(I)I"⟩
abbrev cX6_add : ByteArray := prog_8_method_5_code
def yX6_add : MethodName := ⟨RX6, "add", "(I)V"⟩
abbrev cX6_reserve : ByteArray := prog_8_method_6_code
def yX6_reserve : MethodName := ⟨RX6, "reserve", "(I)V"⟩
abbrev cX6_put : ByteArray := prog_8_method_7_code
def yX6_put : MethodName := ⟨RX6, "put", "(II)V"⟩
def RX7 : String := "MirrorDrill$Reader"
def TX7 : u_T := fun k => match k with
  | 0 => ("MirrorDrill$Reader", "text", "[I", false)
  | 1 => ("MirrorDrill$Reader", "length", "I", false)
  | 2 => ("MirrorDrill$Reader", "at", "I", false)
  | 3 => ("MirrorDrill$Reader", "token", "I", false)
  | 4 => ("MirrorDrill$Reader", "place", "I", false)
  | 5 => ("MirrorDrill$Reader", "value", "I", false)
  | 6 => ("MirrorDrill$Reader", "name", "J", false)
  | 7 => ("MirrorDrill$Reader", "target", "LMirrorDrill$Drill;", false)
  | 8 => ("MirrorDrill$Reader", "toldLines", "I", false)
  | 9 => ("MirrorDrill$Reader", "toldMen", "I", false)
  | 10 => ("MirrorDrill$Reader", "names", "[J", true)
  | 11 => ("MirrorDrill$Reader", "unitsInOne", "I", false)
  | 12 => ("MirrorDrill$Reader", "parts", "[I", true)
  | 13 => ("MirrorDrill$Reader", "top", "I", false)
  | 14 => ("MirrorDrill$Reader", "fault", "I", false)
  | _ => ("MirrorDrill$Reader", "faultPlace", "I", false)
def tyX7 : Nat → FieldType := fun k => match k with
  | 0 => .array .int
  | 1 => .int
  | 2 => .int
  | 3 => .int
  | 4 => .int
  | 5 => .int
  | 6 => .long
  | 7 => .object "MirrorDrill$Drill"
  | 8 => .int
  | 9 => .int
  | 10 => .array .long
  | 11 => .int
  | 12 => .array .int
  | 13 => .int
  | 14 => .int
  | _ => .int
abbrev wsX70 : List Cond := u_ws RX7 TX7 16
theorem nmX7 : ∀ a, a < 16 → ∀ b, b < 16 → a ≠ b → (TX7 a).2.1 ≠ (TX7 b).2.1 := by decide +kernel
theorem tyX7_ok : ∀ k, k < 16 → parseFieldDescriptor (TX7 k).2.2.1 = some (tyX7 k) := by decide +kernel
abbrev cX7_init : ByteArray := prog_9_method_1_code
def yX7_init : MethodName := ⟨RX7, "<init>", "()V"⟩
abbrev cX7_faultFound : ByteArray := prog_9_method_2_code
def yX7_faultFound : MethodName := ⟨RX7, "faultFound", "()I"⟩
abbrev cX7_placeOfFault : ByteArray := prog_9_method_3_code
def yX7_placeOfFault : MethodName := ⟨RX7, "placeOfFault", "()I"⟩
abbrev cX7_begin : ByteArray := prog_9_method_4_code
def yX7_begin : MethodName := ⟨RX7, "begin", "([IILMirrorDrill$Drill;)V"⟩
abbrev cX7_hasMore : ByteArray := prog_9_method_5_code
def yX7_hasMore : MethodName := ⟨RX7, "hasMore", "()Z"⟩
abbrev cX7_refuse : ByteArray := prog_9_method_6_code
def yX7_refuse : MethodName := ⟨RX7, "refuse", "(I)Z"⟩
abbrev cX7_advance : ByteArray := prog_9_method_7_code
def yX7_advance : MethodName := ⟨RX7, "advance", "()V"⟩
abbrev cX7_isBlank : ByteArray := prog_9_method_8_code
def yX7_isBlank : MethodName := ⟨RX7, "isBlank", "(I)Z"⟩
abbrev cX7_isLetter : ByteArray := prog_9_method_9_code
def yX7_isLetter : MethodName := ⟨RX7, "isLetter", "(I)Z"⟩
abbrev cX7_isDigit : ByteArray := prog_9_method_10_code
def yX7_isDigit : MethodName := ⟨RX7, "isDigit", "(I)Z"⟩
abbrev cX7_packWord : ByteArray := prog_9_method_11_code
def yX7_packWord : MethodName := ⟨RX7, "packWord", "()V"⟩
abbrev cX7_scanNumber : ByteArray := prog_9_method_12_code
def yX7_scanNumber : MethodName := ⟨RX7, "scanNumber", "()V"⟩
abbrev cX7_wordToken : ByteArray := prog_9_method_13_code
def yX7_wordToken : MethodName := ⟨RX7, "wordToken", "(J)I"⟩
abbrev cX7_expect : ByteArray := prog_9_method_14_code
def yX7_expect : MethodName := ⟨RX7, "expect", "(I)Z"⟩
abbrev cX7_takeNumber : ByteArray := prog_9_method_15_code
def yX7_takeNumber : MethodName := ⟨RX7, "takeNumber", "(II)I"⟩
abbrev cX7_takeMove : ByteArray := prog_9_method_16_code
def yX7_takeMove : MethodName := ⟨RX7, "takeMove", "()I"⟩
abbrev cX7_isTold : ByteArray := prog_9_method_17_code
def yX7_isTold : MethodName := ⟨RX7, "isTold", "(I)Z"⟩
abbrev cX7_startsLine : ByteArray := prog_9_method_18_code
def yX7_startsLine : MethodName := ⟨RX7, "startsLine", "(I)Z"⟩
abbrev cX7_readLine : ByteArray := prog_9_method_19_code
def yX7_readLine : MethodName := ⟨RX7, "readLine", "()Z"⟩
abbrev cX7_readWorths : ByteArray := prog_9_method_20_code
def yX7_readWorths : MethodName := ⟨RX7, "readWorths", "()Z"⟩
abbrev cX7_ruleNamed : ByteArray := prog_9_method_21_code
def yX7_ruleNamed : MethodName := ⟨RX7, "ruleNamed", "(J)I"⟩
abbrev cX7_readRule : ByteArray := prog_9_method_22_code
def yX7_readRule : MethodName := ⟨RX7, "readRule", "()Z"⟩
abbrev cX7_readMan : ByteArray := prog_9_method_23_code
def yX7_readMan : MethodName := ⟨RX7, "readMan", "()Z"⟩
abbrev cX7_readBy : ByteArray := prog_9_method_24_code
def yX7_readBy : MethodName := ⟨RX7, "readBy", "(I)Z"⟩
abbrev cX7_readMarks : ByteArray := prog_9_method_25_code
def yX7_readMarks : MethodName := ⟨RX7, "readMarks", "(I)Z"⟩
abbrev cX7_readWindow : ByteArray := prog_9_method_26_code
def yX7_readWindow : MethodName := ⟨RX7, "readWindow", "(I)Z"⟩
abbrev cX7_readFormula : ByteArray := prog_9_method_27_code
def yX7_readFormula : MethodName := ⟨RX7, "readFormula", "(II)Z"⟩
abbrev cX7_levelOf : ByteArray := prog_9_method_28_code
def yX7_levelOf : MethodName := ⟨RX7, "levelOf", "(I)I"⟩
abbrev cX7_readNot : ByteArray := prog_9_method_29_code
def yX7_readNot : MethodName := ⟨RX7, "readNot", "(I)Z"⟩
abbrev cX7_readUnit : ByteArray := prog_9_method_30_code
def yX7_readUnit : MethodName := ⟨RX7, "readUnit", "(I)Z"⟩
abbrev cX7_layPart : ByteArray := prog_9_method_31_code
def yX7_layPart : MethodName := ⟨RX7, "layPart", "()V"⟩
abbrev cX7_valueOf : ByteArray := prog_9_method_32_code
def yX7_valueOf : MethodName := ⟨RX7, "valueOf", "(I)I"⟩
abbrev cX7_joinParts : ByteArray := prog_9_method_33_code
def yX7_joinParts : MethodName := ⟨RX7, "joinParts", "(I)V"⟩
abbrev cX7_joined : ByteArray := prog_9_method_34_code
def yX7_joined : MethodName := ⟨RX7, "joined", "(III)I"⟩
def RX8 : String := "MirrorDrill$Witness"
def TX8 : u_T := fun k => match k with
  | 0 => ("MirrorDrill$Witness", "beatOf", "[I", true)
  | 1 => ("MirrorDrill$Witness", "manOf", "[I", true)
  | 2 => ("MirrorDrill$Witness", "moveOf", "[I", true)
  | 3 => ("MirrorDrill$Witness", "toldAt", "[I", true)
  | 4 => ("MirrorDrill$Witness", "untoldAt", "[I", true)
  | 5 => ("MirrorDrill$Witness", "sights", "I", false)
  | 6 => ("MirrorDrill$Witness", "unsureMen", "I", false)
  | 7 => ("MirrorDrill$Witness", "cells", "[J", true)
  | 8 => ("MirrorDrill$Witness", "contents", "[J", true)
  | 9 => ("MirrorDrill$Witness", "lastBeat", "I", false)
  | 10 => ("MirrorDrill$Witness", "clash", "Z", false)
  | 11 => ("MirrorDrill$Witness", "drill", "LMirrorDrill$Drill;", false)
  | 12 => ("MirrorDrill$Witness", "unsureOnes", "[I", true)
  | 13 => ("MirrorDrill$Witness", "known", "Z", false)
  | 14 => ("MirrorDrill$Witness", "knownSights", "I", false)
  | 15 => ("MirrorDrill$Witness", "fitting", "I", false)
  | _ => ("MirrorDrill$Witness", "movesFitting", "[I", true)
def tyX8 : Nat → FieldType := fun k => match k with
  | 0 => .array .int
  | 1 => .array .int
  | 2 => .array .int
  | 3 => .array .int
  | 4 => .array .int
  | 5 => .int
  | 6 => .int
  | 7 => .array .long
  | 8 => .array .long
  | 9 => .int
  | 10 => .boolean
  | 11 => .object "MirrorDrill$Drill"
  | 12 => .array .int
  | 13 => .boolean
  | 14 => .int
  | 15 => .int
  | _ => .array .int
abbrev wsX80 : List Cond := u_ws RX8 TX8 17
theorem nmX8 : ∀ a, a < 17 → ∀ b, b < 17 → a ≠ b → (TX8 a).2.1 ≠ (TX8 b).2.1 := by decide +kernel
theorem tyX8_ok : ∀ k, k < 17 → parseFieldDescriptor (TX8 k).2.2.1 = some (tyX8 k) := by decide +kernel
abbrev cX8_init : ByteArray := prog_10_method_1_code
def yX8_init : MethodName := ⟨RX8, "<init>", "()V"⟩
abbrev cX8_forget : ByteArray := prog_10_method_2_code
def yX8_forget : MethodName := ⟨RX8, "forget", "()V"⟩
abbrev cX8_sights : ByteArray := prog_10_method_3_code
def yX8_sights : MethodName := ⟨RX8, "sights", "()I"⟩
abbrev cX8_tell : ByteArray := prog_10_method_4_code
def yX8_tell : MethodName := ⟨RX8, "tell", "(IIII)I"⟩
abbrev cX8_takeAway : ByteArray := prog_10_method_5_code
def yX8_takeAway : MethodName := ⟨RX8, "takeAway", "(II)Z"⟩
abbrev cX8_doubt : ByteArray := prog_10_method_6_code
def yX8_doubt : MethodName := ⟨RX8, "doubt", "(I)V"⟩
abbrev cX8_doubted : ByteArray := prog_10_method_7_code
def yX8_doubted : MethodName := ⟨RX8, "doubted", "()I"⟩
abbrev cX8_doubts : ByteArray := prog_10_method_8_code
def yX8_doubts : MethodName := ⟨RX8, "doubts", "(I)Z"⟩
abbrev cX8_counts : ByteArray := prog_10_method_9_code
def yX8_counts : MethodName := ⟨RX8, "counts", "(II)Z"⟩
abbrev cX8_gather : ByteArray := prog_10_method_10_code
def yX8_gather : MethodName := ⟨RX8, "gather", "(LMirrorDrill$Drill;I)I"⟩
abbrev cX8_demand : ByteArray := prog_10_method_11_code
def yX8_demand : MethodName := ⟨RX8, "demand", "(III)V"⟩
abbrev cX8_holds : ByteArray := prog_10_method_12_code
def yX8_holds : MethodName := ⟨RX8, "holds", "(JIII)Z"⟩
abbrev cX8_isAsSeen : ByteArray := prog_10_method_13_code
def yX8_isAsSeen : MethodName := ⟨RX8, "isAsSeen", "(JI)Z"⟩
abbrev cX8_fitting : ByteArray := prog_10_method_14_code
def yX8_fitting : MethodName := ⟨RX8, "fitting", "(LMirrorDrill$Drill;I)I"⟩
abbrev cX8_movesThatFit : ByteArray := prog_10_method_15_code
def yX8_movesThatFit : MethodName := ⟨RX8, "movesThatFit", "(I)I"⟩
abbrev cX8_listUnsure : ByteArray := prog_10_method_16_code
def yX8_listUnsure : MethodName := ⟨RX8, "listUnsure", "()I"⟩
abbrev cX8_tryAll : ByteArray := prog_10_method_17_code
def yX8_tryAll : MethodName := ⟨RX8, "tryAll", "()V"⟩
abbrev cX8_rowOfCase : ByteArray := prog_10_method_18_code
def yX8_rowOfCase : MethodName := ⟨RX8, "rowOfCase", "(II)J"⟩
abbrev cX8_noteMoves : ByteArray := prog_10_method_19_code
def yX8_noteMoves : MethodName := ⟨RX8, "noteMoves", "(JI)V"⟩
abbrev cX8_nothingWrong : ByteArray := prog_10_method_20_code
def yX8_nothingWrong : MethodName := ⟨RX8, "nothingWrong", "(LMirrorDrill$Drill;I)Z"⟩
abbrev cX8_menMaybeCracked : ByteArray := prog_10_method_21_code
def yX8_menMaybeCracked : MethodName := ⟨RX8, "menMaybeCracked", "(LMirrorDrill$Drill;I)I"⟩
abbrev cX8_menMaybeWindowed : ByteArray := prog_10_method_22_code
def yX8_menMaybeWindowed : MethodName := ⟨RX8, "menMaybeWindowed", "(LMirrorDrill$Drill;I)I"⟩
def RX9 : String := "MirrorDrill"
def TX9 : u_T := fun k => match k with
  | 0 => ("MirrorDrill", "tape", "[I", true)
  | 1 => ("MirrorDrill", "taped", "I", false)
  | 2 => ("MirrorDrill", "reader", "LMirrorDrill$Reader;", true)
  | 3 => ("MirrorDrill", "drill", "LMirrorDrill$Drill;", false)
  | 4 => ("MirrorDrill", "spare", "LMirrorDrill$Drill;", false)
  | 5 => ("MirrorDrill", "fault", "I", false)
  | 6 => ("MirrorDrill", "faultPlace", "I", false)
  | 7 => ("MirrorDrill", "earnest", "LMirrorDrill$Earnest;", true)
  | 8 => ("MirrorDrill", "boxRows", "[J", true)
  | 9 => ("MirrorDrill", "boxBeats", "[I", true)
  | 10 => ("MirrorDrill", "pile", "LMirrorDrill$Pile;", true)
  | 11 => ("MirrorDrill", "time", "I", false)
  | 12 => ("MirrorDrill", "course", "LMirrorDrill$Course;", true)
  | 13 => ("MirrorDrill", "forebears", "LMirrorDrill$Forebears;", true)
  | 14 => ("MirrorDrill", "endless", "LMirrorDrill$Endless;", true)
  | 15 => ("MirrorDrill", "changes", "LMirrorDrill$Changes;", true)
  | _ => ("MirrorDrill", "witness", "LMirrorDrill$Witness;", true)
def tyX9 : Nat → FieldType := fun k => match k with
  | 0 => .array .int
  | 1 => .int
  | 2 => .object "MirrorDrill$Reader"
  | 3 => .object "MirrorDrill$Drill"
  | 4 => .object "MirrorDrill$Drill"
  | 5 => .int
  | 6 => .int
  | 7 => .object "MirrorDrill$Earnest"
  | 8 => .array .long
  | 9 => .array .int
  | 10 => .object "MirrorDrill$Pile"
  | 11 => .int
  | 12 => .object "MirrorDrill$Course"
  | 13 => .object "MirrorDrill$Forebears"
  | 14 => .object "MirrorDrill$Endless"
  | 15 => .object "MirrorDrill$Changes"
  | _ => .object "MirrorDrill$Witness"
abbrev wsX90 : List Cond := u_ws RX9 TX9 17
theorem nmX9 : ∀ a, a < 17 → ∀ b, b < 17 → a ≠ b → (TX9 a).2.1 ≠ (TX9 b).2.1 := by decide +kernel
theorem tyX9_ok : ∀ k, k < 17 → parseFieldDescriptor (TX9 k).2.2.1 = some (tyX9 k) := by decide +kernel
abbrev cX9_init : ByteArray := prog_1_method_1_code
def yX9_init : MethodName := ⟨RX9, "<init>", "()V"⟩
abbrev cX9_feed : ByteArray := prog_1_method_2_code
def yX9_feed : MethodName := ⟨RX9, "feed", "(IIIII)I"⟩
abbrev cX9_tapeNumber : ByteArray := prog_1_method_3_code
def yX9_tapeNumber : MethodName := ⟨RX9, "tapeNumber", "(I)V"⟩
abbrev cX9_end : ByteArray := prog_1_method_4_code
def yX9_end : MethodName := ⟨RX9, "end", "(I)I"⟩
abbrev cX9_drill : ByteArray := prog_1_method_5_code
def yX9_drill : MethodName := ⟨RX9, "drill", "()I"⟩
abbrev cX9_fault : ByteArray := prog_1_method_6_code
def yX9_fault : MethodName := ⟨RX9, "fault", "(I)I"⟩
abbrev cX9_does : ByteArray := prog_1_method_7_code
def yX9_does : MethodName := ⟨RX9, "does", "(I)I"⟩
abbrev cX9_made : ByteArray := prog_1_method_8_code
def yX9_made : MethodName := ⟨RX9, "made", "(IIII)I"⟩
abbrev cX9_run : ByteArray := prog_1_method_9_code
def yX9_run : MethodName := ⟨RX9, "run", "(I)I"⟩
abbrev cX9_order : ByteArray := prog_1_method_10_code
def yX9_order : MethodName := ⟨RX9, "order", "(II)I"⟩
abbrev cX9_undo : ByteArray := prog_1_method_11_code
def yX9_undo : MethodName := ⟨RX9, "undo", "()Z"⟩
abbrev cX9_redo : ByteArray := prog_1_method_12_code
def yX9_redo : MethodName := ⟨RX9, "redo", "()Z"⟩
abbrev cX9_worth : ByteArray := prog_1_method_13_code
def yX9_worth : MethodName := ⟨RX9, "worth", "()I"⟩
abbrev cX9_round : ByteArray := prog_1_method_14_code
def yX9_round : MethodName := ⟨RX9, "round", "(I)I"⟩
abbrev cX9_before : ByteArray := prog_1_method_15_code
def yX9_before : MethodName := ⟨RX9, "before", "()J"⟩
abbrev cX9_orphan : ByteArray := prog_1_method_16_code
def yX9_orphan : MethodName := ⟨RX9, "orphan", "(I)I"⟩
abbrev cX9_one : ByteArray := prog_1_method_17_code
def yX9_one : MethodName := ⟨RX9, "one", "(I)I"⟩
abbrev cX9_keeps : ByteArray := prog_1_method_18_code
def yX9_keeps : MethodName := ⟨RX9, "keeps", "(I)I"⟩
abbrev cX9_spread : ByteArray := prog_1_method_19_code
def yX9_spread : MethodName := ⟨RX9, "spread", "(III)I"⟩
abbrev cX9_glint : ByteArray := prog_1_method_20_code
def yX9_glint : MethodName := ⟨RX9, "glint", "(III)I"⟩
abbrev cX9_cracks : ByteArray := prog_1_method_21_code
def yX9_cracks : MethodName := ⟨RX9, "cracks", "(III)I"⟩
abbrev cX9_lies : ByteArray := prog_1_method_22_code
def yX9_lies : MethodName := ⟨RX9, "lies", "(I)I"⟩
abbrev cX9_sight : ByteArray := prog_1_method_23_code
def yX9_sight : MethodName := ⟨RX9, "sight", "(III)I"⟩
abbrev cX9_untell : ByteArray := prog_1_method_24_code
def yX9_untell : MethodName := ⟨RX9, "untell", "(I)Z"⟩
abbrev cX9_later : ByteArray := prog_1_method_25_code
def yX9_later : MethodName := ⟨RX9, "later", "(I)I"⟩
abbrev cX9_unsure : ByteArray := prog_1_method_26_code
def yX9_unsure : MethodName := ⟨RX9, "unsure", "(I)I"⟩
abbrev cX9_fits : ByteArray := prog_1_method_27_code
def yX9_fits : MethodName := ⟨RX9, "fits", "(I)I"⟩
abbrev cX9_sure : ByteArray := prog_1_method_28_code
def yX9_sure : MethodName := ⟨RX9, "sure", "(II)I"⟩
abbrev cX9_wrong : ByteArray := prog_1_method_29_code
def yX9_wrong : MethodName := ⟨RX9, "wrong", "(II)I"⟩
abbrev cX9_image : ByteArray := prog_1_method_30_code
def yX9_image : MethodName := ⟨RX9, "image", "(I)I"⟩
abbrev cX9_back : ByteArray := prog_1_method_31_code
def yX9_back : MethodName := ⟨RX9, "back", "(I)I"⟩
abbrev cX9_about : ByteArray := prog_1_method_32_code
def yX9_about : MethodName := ⟨RX9, "about", "(I)I"⟩
abbrev cX9_view : ByteArray := prog_1_method_33_code
def yX9_view : MethodName := ⟨RX9, "view", "(III)I"⟩
abbrev cX9_cell : ByteArray := prog_1_method_34_code
def yX9_cell : MethodName := ⟨RX9, "cell", "(JI)I"⟩
abbrev cX9_with : ByteArray := prog_1_method_35_code
def yX9_with : MethodName := ⟨RX9, "with", "(JII)J"⟩
abbrev cX9_differing : ByteArray := prog_1_method_36_code
def yX9_differing : MethodName := ⟨RX9, "differing", "(JJ)I"⟩
def RX10 : String := "MirrorDrillModel"
def TX10 : u_T := fun k => match k with
  | 0 => ("MirrorDrillModel", "tape", "[B", true)
  | 1 => ("MirrorDrillModel", "text", "[B", true)
  | 2 => ("MirrorDrillModel", "taped", "I", false)
  | 3 => ("MirrorDrillModel", "size", "I", false)
  | 4 => ("MirrorDrillModel", "faultKind", "I", false)
  | 5 => ("MirrorDrillModel", "faultPlace", "I", false)
  | 6 => ("MirrorDrillModel", "at", "I", false)
  | 7 => ("MirrorDrillModel", "end", "I", false)
  | 8 => ("MirrorDrillModel", "token", "I", false)
  | 9 => ("MirrorDrillModel", "number", "I", false)
  | 10 => ("MirrorDrillModel", "name", "J", false)
  | 11 => ("MirrorDrillModel", "moves", "[I", true)
  | 12 => ("MirrorDrillModel", "men", "[I", true)
  | 13 => ("MirrorDrillModel", "rules", "[I", true)
  | 14 => ("MirrorDrillModel", "unitsOf", "[I", true)
  | 15 => ("MirrorDrillModel", "edge", "[I", true)
  | 16 => ("MirrorDrillModel", "worthOf", "[I", true)
  | 17 => ("MirrorDrillModel", "ruleFrom", "[I", true)
  | 18 => ("MirrorDrillModel", "ruleTo", "[I", true)
  | 19 => ("MirrorDrillModel", "table", "[I", true)
  | 20 => ("MirrorDrillModel", "first", "[I", true)
  | 21 => ("MirrorDrillModel", "byRule", "[I", true)
  | 22 => ("MirrorDrillModel", "window", "[I", true)
  | 23 => ("MirrorDrillModel", "isMoves", "[Z", true)
  | 24 => ("MirrorDrillModel", "isMen", "[Z", true)
  | 25 => ("MirrorDrillModel", "isRing", "[Z", true)
  | 26 => ("MirrorDrillModel", "isEdge", "[Z", true)
  | 27 => ("MirrorDrillModel", "isWorth", "[Z", true)
  | 28 => ("MirrorDrillModel", "isTurned", "[Z", true)
  | 29 => ("MirrorDrillModel", "isCracked", "[Z", true)
  | 30 => ("MirrorDrillModel", "isTold", "[Z", true)
  | 31 => ("MirrorDrillModel", "rName", "[J", true)
  | 32 => ("MirrorDrillModel", "code", "[I", true)
  | 33 => ("MirrorDrillModel", "codeNumber", "[I", true)
  | 34 => ("MirrorDrillModel", "eWhat", "[I", true)
  | 35 => ("MirrorDrillModel", "eSign", "[I", true)
  | 36 => ("MirrorDrillModel", "pile", "[I", true)
  | 37 => ("MirrorDrillModel", "bank", "I", false)
  | 38 => ("MirrorDrillModel", "rb", "I", false)
  | 39 => ("MirrorDrillModel", "codes", "I", false)
  | 40 => ("MirrorDrillModel", "within", "I", false)
  | 41 => ("MirrorDrillModel", "piled", "I", false)
  | 42 => ("MirrorDrillModel", "unitsInRule", "I", false)
  | 43 => ("MirrorDrillModel", "row", "[I", true)
  | 44 => ("MirrorDrillModel", "next", "[I", true)
  | 45 => ("MirrorDrillModel", "now", "[I", true)
  | 46 => ("MirrorDrillModel", "beats", "I", false)
  | 47 => ("MirrorDrillModel", "moreCracked", "I", false)
  | 48 => ("MirrorDrillModel", "otherMan", "I", false)
  | 49 => ("MirrorDrillModel", "otherWindow", "I", false)
  | 50 => ("MirrorDrillModel", "was", "[I", true)
  | 51 => ("MirrorDrillModel", "acts", "I", false)
  | 52 => ("MirrorDrillModel", "undone", "I", false)
  | 53 => ("MirrorDrillModel", "seen", "[J", true)
  | 54 => ("MirrorDrillModel", "tail", "I", false)
  | 55 => ("MirrorDrillModel", "loop", "I", false)
  | 56 => ("MirrorDrillModel", "given", "[I", true)
  | 57 => ("MirrorDrillModel", "ways", "[J", true)
  | 58 => ("MirrorDrillModel", "waysNext", "[J", true)
  | 59 => ("MirrorDrillModel", "laidRow", "[I", true)
  | 60 => ("MirrorDrillModel", "laid", "I", false)
  | 61 => ("MirrorDrillModel", "queue", "[I", true)
  | 62 => ("MirrorDrillModel", "cameFrom", "[I", true)
  | 63 => ("MirrorDrillModel", "cameBy", "[B", true)
  | 64 => ("MirrorDrillModel", "isOrphan", "Z", false)
  | 65 => ("MirrorDrillModel", "isOn", "[Z", true)
  | 66 => ("MirrorDrillModel", "other", "[I", true)
  | 67 => ("MirrorDrillModel", "pickMan", "[I", true)
  | 68 => ("MirrorDrillModel", "pickMove", "[I", true)
  | 69 => ("MirrorDrillModel", "gBeat", "[I", true)
  | 70 => ("MirrorDrillModel", "gMan", "[I", true)
  | 71 => ("MirrorDrillModel", "gMove", "[I", true)
  | 72 => ("MirrorDrillModel", "gTold", "[I", true)
  | 73 => ("MirrorDrillModel", "gUntold", "[I", true)
  | 74 => ("MirrorDrillModel", "sureMoves", "[I", true)
  | 75 => ("MirrorDrillModel", "sights", "I", false)
  | 76 => ("MirrorDrillModel", "time", "I", false)
  | 77 => ("MirrorDrillModel", "unsureSet", "I", false)
  | 78 => ("MirrorDrillModel", "boxBeats", "[I", true)
  | _ => ("MirrorDrillModel", "boxRow", "[I", true)
def tyX10 : Nat → FieldType := fun k => match k with
  | 0 => .array .byte
  | 1 => .array .byte
  | 2 => .int
  | 3 => .int
  | 4 => .int
  | 5 => .int
  | 6 => .int
  | 7 => .int
  | 8 => .int
  | 9 => .int
  | 10 => .long
  | 11 => .array .int
  | 12 => .array .int
  | 13 => .array .int
  | 14 => .array .int
  | 15 => .array .int
  | 16 => .array .int
  | 17 => .array .int
  | 18 => .array .int
  | 19 => .array .int
  | 20 => .array .int
  | 21 => .array .int
  | 22 => .array .int
  | 23 => .array .boolean
  | 24 => .array .boolean
  | 25 => .array .boolean
  | 26 => .array .boolean
  | 27 => .array .boolean
  | 28 => .array .boolean
  | 29 => .array .boolean
  | 30 => .array .boolean
  | 31 => .array .long
  | 32 => .array .int
  | 33 => .array .int
  | 34 => .array .int
  | 35 => .array .int
  | 36 => .array .int
  | 37 => .int
  | 38 => .int
  | 39 => .int
  | 40 => .int
  | 41 => .int
  | 42 => .int
  | 43 => .array .int
  | 44 => .array .int
  | 45 => .array .int
  | 46 => .int
  | 47 => .int
  | 48 => .int
  | 49 => .int
  | 50 => .array .int
  | 51 => .int
  | 52 => .int
  | 53 => .array .long
  | 54 => .int
  | 55 => .int
  | 56 => .array .int
  | 57 => .array .long
  | 58 => .array .long
  | 59 => .array .int
  | 60 => .int
  | 61 => .array .int
  | 62 => .array .int
  | 63 => .array .byte
  | 64 => .boolean
  | 65 => .array .boolean
  | 66 => .array .int
  | 67 => .array .int
  | 68 => .array .int
  | 69 => .array .int
  | 70 => .array .int
  | 71 => .array .int
  | 72 => .array .int
  | 73 => .array .int
  | 74 => .array .int
  | 75 => .int
  | 76 => .int
  | 77 => .int
  | 78 => .array .int
  | _ => .array .int
abbrev wsX100 : List Cond := u_ws RX10 TX10 80
theorem nmX10 : ∀ a, a < 80 → ∀ b, b < 80 → a ≠ b → (TX10 a).2.1 ≠ (TX10 b).2.1 := by decide +kernel
theorem tyX10_ok : ∀ k, k < 80 → parseFieldDescriptor (TX10 k).2.2.1 = some (tyX10 k) := by decide +kernel
abbrev cX10_init : ByteArray := prog_12_method_1_code
def yX10_init : MethodName := ⟨RX10, "<init>", "()V"⟩
abbrev cX10_sign : ByteArray := prog_12_method_2_code
def yX10_sign : MethodName := ⟨RX10, "sign", "(I)I"⟩
abbrev cX10_isLetter : ByteArray := prog_12_method_3_code
def yX10_isLetter : MethodName := ⟨RX10, "isLetter", "(I)Z"⟩
abbrev cX10_isDigit : ByteArray := prog_12_method_4_code
def yX10_isDigit : MethodName := ⟨RX10, "isDigit", "(I)Z"⟩
abbrev cX10_fails : ByteArray := prog_12_method_5_code
def yX10_fails : MethodName := ⟨RX10, "fails", "(II)V"⟩
abbrev cX10_isGood : ByteArray := prog_12_method_6_code
def yX10_isGood : MethodName := ⟨RX10, "isGood", "()Z"⟩
abbrev cX10_isKept : ByteArray := prog_12_method_7_code
def yX10_isKept : MethodName := ⟨RX10, "isKept", "(J)Z"⟩
abbrev cX10_isSign : ByteArray := prog_12_method_8_code
def yX10_isSign : MethodName := ⟨RX10, "isSign", "(I)Z"⟩
abbrev cX10_goOn : ByteArray := prog_12_method_9_code
def yX10_goOn : MethodName := ⟨RX10, "goOn", "()V"⟩
abbrev cX10_isSignHere : ByteArray := prog_12_method_10_code
def yX10_isSignHere : MethodName := ⟨RX10, "isSignHere", "(I)Z"⟩
abbrev cX10_isWord : ByteArray := prog_12_method_11_code
def yX10_isWord : MethodName := ⟨RX10, "isWord", "(J)Z"⟩
abbrev cX10_misplaced : ByteArray := prog_12_method_12_code
def yX10_misplaced : MethodName := ⟨RX10, "misplaced", "()V"⟩
abbrev cX10_must : ByteArray := prog_12_method_13_code
def yX10_must : MethodName := ⟨RX10, "must", "(Z)V"⟩
abbrev cX10_numeral : ByteArray := prog_12_method_14_code
def yX10_numeral : MethodName := ⟨RX10, "numeral", "(II)I"⟩
abbrev cX10_clearBank : ByteArray := prog_12_method_15_code
def yX10_clearBank : MethodName := ⟨RX10, "clearBank", "()V"⟩
abbrev cX10_drill : ByteArray := prog_12_method_16_code
def yX10_drill : MethodName := ⟨RX10, "drill", "()I"⟩
abbrev cX10_isFull : ByteArray := prog_12_method_17_code
def yX10_isFull : MethodName := ⟨RX10, "isFull", "()Z"⟩
abbrev cX10_readLine : ByteArray := prog_12_method_18_code
def yX10_readLine : MethodName := ⟨RX10, "readLine", "()V"⟩
abbrev cX10_ruleHere : ByteArray := prog_12_method_19_code
def yX10_ruleHere : MethodName := ⟨RX10, "ruleHere", "()I"⟩
abbrev cX10_readRule : ByteArray := prog_12_method_20_code
def yX10_readRule : MethodName := ⟨RX10, "readRule", "()V"⟩
abbrev cX10_readMan : ByteArray := prog_12_method_21_code
def yX10_readMan : MethodName := ⟨RX10, "readMan", "()V"⟩
abbrev cX10_readBy : ByteArray := prog_12_method_22_code
def yX10_readBy : MethodName := ⟨RX10, "readBy", "(I)V"⟩
abbrev cX10_flag : ByteArray := prog_12_method_23_code
def yX10_flag : MethodName := ⟨RX10, "flag", "(J)Z"⟩
abbrev cX10_emit : ByteArray := prog_12_method_24_code
def yX10_emit : MethodName := ⟨RX10, "emit", "(II)V"⟩
abbrev cX10_pushE : ByteArray := prog_12_method_25_code
def yX10_pushE : MethodName := ⟨RX10, "pushE", "(II)V"⟩
abbrev cX10_e : ByteArray := prog_12_method_26_code
def yX10_e : MethodName := ⟨RX10, "e", "()V"⟩
abbrev cX10_wordHere : ByteArray := prog_12_method_27_code
def yX10_wordHere : MethodName := ⟨RX10, "wordHere", "()I"⟩
abbrev cX10_unit : ByteArray := prog_12_method_28_code
def yX10_unit : MethodName := ⟨RX10, "unit", "()Z"⟩
abbrev cX10_rankHere : ByteArray := prog_12_method_29_code
def yX10_rankHere : MethodName := ⟨RX10, "rankHere", "()I"⟩
abbrev cX10_isCompared : ByteArray := prog_12_method_30_code
def yX10_isCompared : MethodName := ⟨RX10, "isCompared", "()Z"⟩
abbrev cX10_behindUnit : ByteArray := prog_12_method_31_code
def yX10_behindUnit : MethodName := ⟨RX10, "behindUnit", "()Z"⟩
abbrev cX10_two : ByteArray := prog_12_method_32_code
def yX10_two : MethodName := ⟨RX10, "two", "(III)I"⟩
abbrev cX10_comes : ByteArray := prog_12_method_33_code
def yX10_comes : MethodName := ⟨RX10, "comes", "(IIII)I"⟩
abbrev cX10_layTables : ByteArray := prog_12_method_34_code
def yX10_layTables : MethodName := ⟨RX10, "layTables", "()V"⟩
abbrev cX10_makes : ByteArray := prog_12_method_35_code
def yX10_makes : MethodName := ⟨RX10, "makes", "(IIII)I"⟩
abbrev cX10_fault : ByteArray := prog_12_method_36_code
def yX10_fault : MethodName := ⟨RX10, "fault", "(I)I"⟩
abbrev cX10_isIn : ByteArray := prog_12_method_37_code
def yX10_isIn : MethodName := ⟨RX10, "isIn", "(III)Z"⟩
abbrev cX10_bitsOf : ByteArray := prog_12_method_38_code
def yX10_bitsOf : MethodName := ⟨RX10, "bitsOf", "(I)I"⟩
abbrev cX10_manyOf : ByteArray := prog_12_method_39_code
def yX10_manyOf : MethodName := ⟨RX10, "manyOf", "()I"⟩
abbrev cX10_isMan : ByteArray := prog_12_method_40_code
def yX10_isMan : MethodName := ⟨RX10, "isMan", "(I)Z"⟩
abbrev cX10_isMove : ByteArray := prog_12_method_41_code
def yX10_isMove : MethodName := ⟨RX10, "isMove", "(I)Z"⟩
abbrev cX10_isRule : ByteArray := prog_12_method_42_code
def yX10_isRule : MethodName := ⟨RX10, "isRule", "(I)Z"⟩
abbrev cX10_begin : ByteArray := prog_12_method_43_code
def yX10_begin : MethodName := ⟨RX10, "begin", "()V"⟩
abbrev cX10_layFirst : ByteArray := prog_12_method_44_code
def yX10_layFirst : MethodName := ⟨RX10, "layFirst", "()V"⟩
abbrev cX10_layNow : ByteArray := prog_12_method_45_code
def yX10_layNow : MethodName := ⟨RX10, "layNow", "()V"⟩
abbrev cX10_keepNow : ByteArray := prog_12_method_46_code
def yX10_keepNow : MethodName := ⟨RX10, "keepNow", "()V"⟩
abbrev cX10_windowOf : ByteArray := prog_12_method_47_code
def yX10_windowOf : MethodName := ⟨RX10, "windowOf", "(I)I"⟩
abbrev cX10_stays : ByteArray := prog_12_method_48_code
def yX10_stays : MethodName := ⟨RX10, "stays", "(I)Z"⟩
abbrev cX10_after : ByteArray := prog_12_method_49_code
def yX10_after : MethodName := ⟨RX10, "after", "(IIII)I"⟩
abbrev cX10_aheadOf : ByteArray := prog_12_method_50_code
def yX10_aheadOf : MethodName := ⟨RX10, "aheadOf", "(I)I"⟩
abbrev cX10_behindOf : ByteArray := prog_12_method_51_code
def yX10_behindOf : MethodName := ⟨RX10, "behindOf", "(I)I"⟩
abbrev cX10_beat : ByteArray := prog_12_method_52_code
def yX10_beat : MethodName := ⟨RX10, "beat", "()V"⟩
abbrev cX10_beatTimes : ByteArray := prog_12_method_53_code
def yX10_beatTimes : MethodName := ⟨RX10, "beatTimes", "(I)V"⟩
abbrev cX10_does : ByteArray := prog_12_method_54_code
def yX10_does : MethodName := ⟨RX10, "does", "(I)I"⟩
abbrev cX10_made : ByteArray := prog_12_method_55_code
def yX10_made : MethodName := ⟨RX10, "made", "(IIII)I"⟩
abbrev cX10_keepAct : ByteArray := prog_12_method_56_code
def yX10_keepAct : MethodName := ⟨RX10, "keepAct", "()V"⟩
abbrev cX10_exchange : ByteArray := prog_12_method_57_code
def yX10_exchange : MethodName := ⟨RX10, "exchange", "()V"⟩
abbrev cX10_run : ByteArray := prog_12_method_58_code
def yX10_run : MethodName := ⟨RX10, "run", "(I)I"⟩
abbrev cX10_order : ByteArray := prog_12_method_59_code
def yX10_order : MethodName := ⟨RX10, "order", "(II)I"⟩
abbrev cX10_undo : ByteArray := prog_12_method_60_code
def yX10_undo : MethodName := ⟨RX10, "undo", "()Z"⟩
abbrev cX10_redo : ByteArray := prog_12_method_61_code
def yX10_redo : MethodName := ⟨RX10, "redo", "()Z"⟩
abbrev cX10_worth : ByteArray := prog_12_method_62_code
def yX10_worth : MethodName := ⟨RX10, "worth", "()I"⟩
abbrev cX10_rowNumber : ByteArray := prog_12_method_63_code
def yX10_rowNumber : MethodName := ⟨RX10, "rowNumber", "()J"⟩
abbrev cX10_layRound : ByteArray := prog_12_method_64_code
def yX10_layRound : MethodName := ⟨RX10, "layRound", "()Z"⟩
abbrev cX10_round : ByteArray := prog_12_method_65_code
def yX10_round : MethodName := ⟨RX10, "round", "(I)I"⟩
abbrev cX10_mayDo : ByteArray := prog_12_method_66_code
def yX10_mayDo : MethodName := ⟨RX10, "mayDo", "(II)Z"⟩
abbrev cX10_atMost : ByteArray := prog_12_method_67_code
def yX10_atMost : MethodName := ⟨RX10, "atMost", "(J)J"⟩
abbrev cX10_countAhead : ByteArray := prog_12_method_68_code
def yX10_countAhead : MethodName := ⟨RX10, "countAhead", "()J"⟩
abbrev cX10_countFrom : ByteArray := prog_12_method_69_code
def yX10_countFrom : MethodName := ⟨RX10, "countFrom", "(II)J"⟩
abbrev cX10_before : ByteArray := prog_12_method_70_code
def yX10_before : MethodName := ⟨RX10, "before", "()J"⟩
abbrev cX10_stepSet : ByteArray := prog_12_method_71_code
def yX10_stepSet : MethodName := ⟨RX10, "stepSet", "(III)I"⟩
abbrev cX10_allPairs : ByteArray := prog_12_method_72_code
def yX10_allPairs : MethodName := ⟨RX10, "allPairs", "()I"⟩
abbrev cX10_orphan : ByteArray := prog_12_method_73_code
def yX10_orphan : MethodName := ⟨RX10, "orphan", "(I)I"⟩
abbrev cX10_layOrphan : ByteArray := prog_12_method_74_code
def yX10_layOrphan : MethodName := ⟨RX10, "layOrphan", "()I"⟩
abbrev cX10_orphanAt : ByteArray := prog_12_method_75_code
def yX10_orphanAt : MethodName := ⟨RX10, "orphanAt", "(I)I"⟩
abbrev cX10_leads : ByteArray := prog_12_method_76_code
def yX10_leads : MethodName := ⟨RX10, "leads", "(III)Z"⟩
abbrev cX10_isPair : ByteArray := prog_12_method_77_code
def yX10_isPair : MethodName := ⟨RX10, "isPair", "(I)Z"⟩
abbrev cX10_hasNext : ByteArray := prog_12_method_78_code
def yX10_hasNext : MethodName := ⟨RX10, "hasNext", "(IIZ)Z"⟩
abbrev cX10_one : ByteArray := prog_12_method_79_code
def yX10_one : MethodName := ⟨RX10, "one", "(I)I"⟩
abbrev cX10_keeps : ByteArray := prog_12_method_80_code
def yX10_keeps : MethodName := ⟨RX10, "keeps", "(I)I"⟩
abbrev cX10_isSame : ByteArray := prog_12_method_81_code
def yX10_isSame : MethodName := ⟨RX10, "isSame", "(III)Z"⟩
abbrev cX10_spread : ByteArray := prog_12_method_82_code
def yX10_spread : MethodName := ⟨RX10, "spread", "(III)I"⟩
abbrev cX10_isSoBy : ByteArray := prog_12_method_83_code
def yX10_isSoBy : MethodName := ⟨RX10, "isSoBy", "(IIII)Z"⟩
abbrev cX10_nextMen : ByteArray := prog_12_method_84_code
def yX10_nextMen : MethodName := ⟨RX10, "nextMen", "(I)Z"⟩
abbrev cX10_otherMove : ByteArray := prog_12_method_85_code
def yX10_otherMove : MethodName := ⟨RX10, "otherMove", "(II)I"⟩
abbrev cX10_nextMoves : ByteArray := prog_12_method_86_code
def yX10_nextMoves : MethodName := ⟨RX10, "nextMoves", "(I)Z"⟩
abbrev cX10_glint : ByteArray := prog_12_method_87_code
def yX10_glint : MethodName := ⟨RX10, "glint", "(III)I"⟩
abbrev cX10_layGlint : ByteArray := prog_12_method_88_code
def yX10_layGlint : MethodName := ⟨RX10, "layGlint", "(I)I"⟩
abbrev cX10_cracks : ByteArray := prog_12_method_89_code
def yX10_cracks : MethodName := ⟨RX10, "cracks", "(III)I"⟩
abbrev cX10_layCracks : ByteArray := prog_12_method_90_code
def yX10_layCracks : MethodName := ⟨RX10, "layCracks", "(I)I"⟩
abbrev cX10_lies : ByteArray := prog_12_method_91_code
def yX10_lies : MethodName := ⟨RX10, "lies", "(I)I"⟩
abbrev cX10_sight : ByteArray := prog_12_method_92_code
def yX10_sight : MethodName := ⟨RX10, "sight", "(III)I"⟩
abbrev cX10_untell : ByteArray := prog_12_method_93_code
def yX10_untell : MethodName := ⟨RX10, "untell", "(I)Z"⟩
abbrev cX10_later : ByteArray := prog_12_method_94_code
def yX10_later : MethodName := ⟨RX10, "later", "(I)I"⟩
abbrev cX10_unsure : ByteArray := prog_12_method_95_code
def yX10_unsure : MethodName := ⟨RX10, "unsure", "(I)I"⟩
abbrev cX10_areSo : ByteArray := prog_12_method_96_code
def yX10_areSo : MethodName := ⟨RX10, "areSo", "(I)Z"⟩
abbrev cX10_layCase : ByteArray := prog_12_method_97_code
def yX10_layCase : MethodName := ⟨RX10, "layCase", "(I)V"⟩
abbrev cX10_fits : ByteArray := prog_12_method_98_code
def yX10_fits : MethodName := ⟨RX10, "fits", "(I)I"⟩
abbrev cX10_sure : ByteArray := prog_12_method_99_code
def yX10_sure : MethodName := ⟨RX10, "sure", "(II)I"⟩
abbrev cX10_isCase : ByteArray := prog_12_method_100_code
def yX10_isCase : MethodName := ⟨RX10, "isCase", "(I)Z"⟩
abbrev cX10_wrong : ByteArray := prog_12_method_101_code
def yX10_wrong : MethodName := ⟨RX10, "wrong", "(II)I"⟩
abbrev cX10_canCrack : ByteArray := prog_12_method_102_code
def yX10_canCrack : MethodName := ⟨RX10, "canCrack", "(II)Z"⟩
abbrev cX10_canSee : ByteArray := prog_12_method_103_code
def yX10_canSee : MethodName := ⟨RX10, "canSee", "(II)Z"⟩
abbrev cX10_image : ByteArray := prog_12_method_104_code
def yX10_image : MethodName := ⟨RX10, "image", "(I)I"⟩
abbrev cX10_back : ByteArray := prog_12_method_105_code
def yX10_back : MethodName := ⟨RX10, "back", "(I)I"⟩
abbrev cX10_about : ByteArray := prog_12_method_106_code
def yX10_about : MethodName := ⟨RX10, "about", "(I)I"⟩
abbrev cX10_feed : ByteArray := prog_12_method_107_code
def yX10_feed : MethodName := ⟨RX10, "feed", "(IIIII)I"⟩
abbrev cX10_end : ByteArray := prog_12_method_108_code
def yX10_end : MethodName := ⟨RX10, "end", "(I)I"⟩
def RJx145de : String := "java/io/Serializable"
def TJx145de : u_T := fun k => match k with
  | _ => ("", "", "", false)
def tyJx145de : Nat → FieldType := fun k => match k with
  | _ => .int
abbrev wsJx145de0 : List Cond := u_ws RJx145de TJx145de 0
theorem nmJx145de : ∀ a, a < 0 → ∀ b, b < 0 → a ≠ b → (TJx145de a).2.1 ≠ (TJx145de b).2.1 := by decide +kernel
theorem tyJx145de_ok : ∀ k, k < 0 → parseFieldDescriptor (TJx145de k).2.2.1 = some (tyJx145de k) := by decide +kernel
def RJx9f9b0 : String := "java/lang/CharSequence"
def TJx9f9b0 : u_T := fun k => match k with
  | _ => ("", "", "", false)
def tyJx9f9b0 : Nat → FieldType := fun k => match k with
  | _ => .int
abbrev wsJx9f9b00 : List Cond := u_ws RJx9f9b0 TJx9f9b0 0
theorem nmJx9f9b0 : ∀ a, a < 0 → ∀ b, b < 0 → a ≠ b → (TJx9f9b0 a).2.1 ≠ (TJx9f9b0 b).2.1 := by decide +kernel
theorem tyJx9f9b0_ok : ∀ k, k < 0 → parseFieldDescriptor (TJx9f9b0 k).2.2.1 = some (tyJx9f9b0 k) := by decide +kernel
def RJ11 : String := "java/lang/Character"
def TJ11 : u_T := fun k => match k with
  | _ => ("", "", "", false)
def tyJ11 : Nat → FieldType := fun k => match k with
  | _ => .int
abbrev wsJ110 : List Cond := u_ws RJ11 TJ11 0
theorem nmJ11 : ∀ a, a < 0 → ∀ b, b < 0 → a ≠ b → (TJ11 a).2.1 ≠ (TJ11 b).2.1 := by decide +kernel
theorem tyJ11_ok : ∀ k, k < 0 → parseFieldDescriptor (TJ11 k).2.2.1 = some (tyJ11 k) := by decide +kernel
abbrev cJ11_isValidCodePoint_9a6ad : ByteArray := prog_13_method_11_code
def yJ11_isValidCodePoint_9a6ad : MethodName := ⟨RJ11, "isValidCodePoint", "(I)Z"⟩
abbrev cJ11_highSurrogate_5068e : ByteArray := prog_13_method_28_code
def yJ11_highSurrogate_5068e : MethodName := ⟨RJ11, "highSurrogate", "(I)C"⟩
abbrev cJ11_lowSurrogate_5068e : ByteArray := prog_13_method_29_code
def yJ11_lowSurrogate_5068e : MethodName := ⟨RJ11, "lowSurrogate", "(I)C"⟩
def RJx8e188 : String := "java/lang/Cloneable"
def TJx8e188 : u_T := fun k => match k with
  | _ => ("", "", "", false)
def tyJx8e188 : Nat → FieldType := fun k => match k with
  | _ => .int
abbrev wsJx8e1880 : List Cond := u_ws RJx8e188 TJx8e188 0
theorem nmJx8e188 : ∀ a, a < 0 → ∀ b, b < 0 → a ≠ b → (TJx8e188 a).2.1 ≠ (TJx8e188 b).2.1 := by decide +kernel
theorem tyJx8e188_ok : ∀ k, k < 0 → parseFieldDescriptor (TJx8e188 k).2.2.1 = some (tyJx8e188 k) := by decide +kernel
def RJxb160c : String := "java/lang/Comparable"
def TJxb160c : u_T := fun k => match k with
  | _ => ("", "", "", false)
def tyJxb160c : Nat → FieldType := fun k => match k with
  | _ => .int
abbrev wsJxb160c0 : List Cond := u_ws RJxb160c TJxb160c 0
theorem nmJxb160c : ∀ a, a < 0 → ∀ b, b < 0 → a ≠ b → (TJxb160c a).2.1 ≠ (TJxb160c b).2.1 := by decide +kernel
theorem tyJxb160c_ok : ∀ k, k < 0 → parseFieldDescriptor (TJxb160c k).2.2.1 = some (tyJxb160c k) := by decide +kernel
def RJ6 : String := "java/lang/Integer"
def TJ6 : u_T := fun k => match k with
  | _ => ("", "", "", false)
def tyJ6 : Nat → FieldType := fun k => match k with
  | _ => .int
abbrev wsJ60 : List Cond := u_ws RJ6 TJ6 0
theorem nmJ6 : ∀ a, a < 0 → ∀ b, b < 0 → a ≠ b → (TJ6 a).2.1 ≠ (TJ6 b).2.1 := by decide +kernel
theorem tyJ6_ok : ∀ k, k < 0 → parseFieldDescriptor (TJ6 k).2.2.1 = some (tyJ6 k) := by decide +kernel
abbrev cJ6_bitCount_0f7a4 : ByteArray := prog_15_method_49_code
def yJ6_bitCount_0f7a4 : MethodName := ⟨RJ6, "bitCount", "(I)I"⟩
def RJ13 : String := "java/lang/Long"
def TJ13 : u_T := fun k => match k with
  | _ => ("", "", "", false)
def tyJ13 : Nat → FieldType := fun k => match k with
  | _ => .int
abbrev wsJ130 : List Cond := u_ws RJ13 TJ13 0
theorem nmJ13 : ∀ a, a < 0 → ∀ b, b < 0 → a ≠ b → (TJ13 a).2.1 ≠ (TJ13 b).2.1 := by decide +kernel
theorem tyJ13_ok : ∀ k, k < 0 → parseFieldDescriptor (TJ13 k).2.2.1 = some (tyJ13 k) := by decide +kernel
abbrev cJ13_bitCount_95d88 : ByteArray := prog_16_method_50_code
def yJ13_bitCount_95d88 : MethodName := ⟨RJ13, "bitCount", "(J)I"⟩
def RJ9 : String := "java/lang/Math"
def TJ9 : u_T := fun k => match k with
  | _ => ("", "", "", false)
def tyJ9 : Nat → FieldType := fun k => match k with
  | _ => .int
abbrev wsJ90 : List Cond := u_ws RJ9 TJ9 0
theorem nmJ9 : ∀ a, a < 0 → ∀ b, b < 0 → a ≠ b → (TJ9 a).2.1 ≠ (TJ9 b).2.1 := by decide +kernel
theorem tyJ9_ok : ∀ k, k < 0 → parseFieldDescriptor (TJ9 k).2.2.1 = some (tyJ9 k) := by decide +kernel
abbrev cJ9_floorMod_7cf53 : ByteArray := prog_17_method_50_code
def yJ9_floorMod_7cf53 : MethodName := ⟨RJ9, "floorMod", "(II)I"⟩
abbrev cJ9_abs_0f7a4 : ByteArray := prog_17_method_59_code
def yJ9_abs_0f7a4 : MethodName := ⟨RJ9, "abs", "(I)I"⟩
abbrev cJ9_max_7cf53 : ByteArray := prog_17_method_65_code
def yJ9_max_7cf53 : MethodName := ⟨RJ9, "max", "(II)I"⟩
abbrev cJ9_min_7cf53 : ByteArray := prog_17_method_69_code
def yJ9_min_7cf53 : MethodName := ⟨RJ9, "min", "(II)I"⟩
abbrev cJ9_min_f86c9 : ByteArray := prog_17_method_70_code
def yJ9_min_f86c9 : MethodName := ⟨RJ9, "min", "(JJ)J"⟩
def RJ0 : String := "java/lang/String"
def TJ0 : u_T := fun k => match k with
  | _ => ("", "", "", false)
def tyJ0 : Nat → FieldType := fun k => match k with
  | _ => .int
abbrev wsJ00 : List Cond := u_ws RJ0 TJ0 0
theorem nmJ0 : ∀ a, a < 0 → ∀ b, b < 0 → a ≠ b → (TJ0 a).2.1 ≠ (TJ0 b).2.1 := by decide +kernel
theorem tyJ0_ok : ∀ k, k < 0 → parseFieldDescriptor (TJ0 k).2.2.1 = some (tyJ0 k) := by decide +kernel
abbrev cJ0_length_8abf5 : ByteArray := prog_18_method_54_code
def yJ0_length_8abf5 : MethodName := ⟨RJ0, "length", "()I"⟩
abbrev cJ0_charAt_5068e : ByteArray := prog_18_method_56_code
def yJ0_charAt_5068e : MethodName := ⟨RJ0, "charAt", "(I)C"⟩
abbrev cJ0_indexOf_0f7a4 : ByteArray := prog_18_method_79_code
def yJ0_indexOf_0f7a4 : MethodName := ⟨RJ0, "indexOf", "(I)I"⟩
abbrev cJ0_indexOf_7cf53 : ByteArray := prog_18_method_80_code
def yJ0_indexOf_7cf53 : MethodName := ⟨RJ0, "indexOf", "(II)I"⟩
abbrev cJ0_coder_7d493 : ByteArray := prog_18_method_152_code
def yJ0_coder_7d493 : MethodName := ⟨RJ0, "coder", "()B"⟩
abbrev cJ0_isLatin1_aae02 : ByteArray := prog_18_method_154_code
def yJ0_isLatin1_aae02 : MethodName := ⟨RJ0, "isLatin1", "()Z"⟩
abbrev cJ0_checkIndex_df160 : ByteArray := prog_18_method_155_code
def yJ0_checkIndex_df160 : MethodName := ⟨RJ0, "checkIndex", "(II)V"⟩
abbrev cJ0_checkBoundsBeginEnd_23922 : ByteArray := prog_18_method_158_code
def yJ0_checkBoundsBeginEnd_23922 : MethodName := ⟨RJ0, "checkBoundsBeginEnd", "(III)V"⟩
def RJ1 : String := "java/lang/StringLatin1"
def TJ1 : u_T := fun k => match k with
  | _ => ("", "", "", false)
def tyJ1 : Nat → FieldType := fun k => match k with
  | _ => .int
abbrev wsJ10 : List Cond := u_ws RJ1 TJ1 0
theorem nmJ1 : ∀ a, a < 0 → ∀ b, b < 0 → a ≠ b → (TJ1 a).2.1 ≠ (TJ1 b).2.1 := by decide +kernel
theorem tyJ1_ok : ∀ k, k < 0 → parseFieldDescriptor (TJ1 k).2.2.1 = some (tyJ1 k) := by decide +kernel
abbrev cJ1_charAt_3b067 : ByteArray := prog_19_method_2_code
def yJ1_charAt_3b067 : MethodName := ⟨RJ1, "charAt", "([BI)C"⟩
abbrev cJ1_canEncode_9a6ad : ByteArray := prog_19_method_4_code
def yJ1_canEncode_9a6ad : MethodName := ⟨RJ1, "canEncode", "(I)Z"⟩
abbrev cJ1_indexOf_4cfef : ByteArray := prog_19_method_22_code
def yJ1_indexOf_4cfef : MethodName := ⟨RJ1, "indexOf", "([BIII)I"⟩
abbrev cJ1_indexOfChar_4cfef : ByteArray := prog_19_method_23_code
def yJ1_indexOfChar_4cfef : MethodName := ⟨RJ1, "indexOfChar", "([BIII)I"⟩
def RJ2 : String := "java/lang/StringUTF16"
def TJ2 : u_T := fun k => match k with
  | _ => ("", "", "", false)
def tyJ2 : Nat → FieldType := fun k => match k with
  | _ => .int
abbrev wsJ20 : List Cond := u_ws RJ2 TJ2 0
theorem nmJ2 : ∀ a, a < 0 → ∀ b, b < 0 → a ≠ b → (TJ2 a).2.1 ≠ (TJ2 b).2.1 := by decide +kernel
theorem tyJ2_ok : ∀ k, k < 0 → parseFieldDescriptor (TJ2 k).2.2.1 = some (tyJ2 k) := by decide +kernel
abbrev cJ2_getChar_3b067 : ByteArray := prog_20_method_5_code
def yJ2_getChar_3b067 : MethodName := ⟨RJ2, "getChar", "([BI)C"⟩
abbrev cJ2_length_9d52b : ByteArray := prog_20_method_6_code
def yJ2_length_9d52b : MethodName := ⟨RJ2, "length", "([B)I"⟩
abbrev cJ2_indexOf_4cfef : ByteArray := prog_20_method_40_code
def yJ2_indexOf_4cfef : MethodName := ⟨RJ2, "indexOf", "([BIII)I"⟩
abbrev cJ2_indexOfChar_4cfef : ByteArray := prog_20_method_47_code
def yJ2_indexOfChar_4cfef : MethodName := ⟨RJ2, "indexOfChar", "([BIII)I"⟩
abbrev cJ2_indexOfCharUnsafe_4cfef : ByteArray := prog_20_method_48_code
def yJ2_indexOfCharUnsafe_4cfef : MethodName := ⟨RJ2, "indexOfCharUnsafe", "([BIII)I"⟩
abbrev cJ2_indexOfSupplementary_4cfef : ByteArray := prog_20_method_49_code
def yJ2_indexOfSupplementary_4cfef : MethodName := ⟨RJ2, "indexOfSupplementary", "([BIII)I"⟩
abbrev cJ2_charAt_3b067 : ByteArray := prog_20_method_83_code
def yJ2_charAt_3b067 : MethodName := ⟨RJ2, "charAt", "([BI)C"⟩
abbrev cJ2_checkIndex_2214a : ByteArray := prog_20_method_91_code
def yJ2_checkIndex_2214a : MethodName := ⟨RJ2, "checkIndex", "(I[B)V"⟩
abbrev cJ2_checkBoundsBeginEnd_d044e : ByteArray := prog_20_method_93_code
def yJ2_checkBoundsBeginEnd_d044e : MethodName := ⟨RJ2, "checkBoundsBeginEnd", "(II[B)V"⟩
def RJ10 : String := "java/lang/System"
def TJ10 : u_T := fun k => match k with
  | _ => ("", "", "", false)
def tyJ10 : Nat → FieldType := fun k => match k with
  | _ => .int
abbrev wsJ100 : List Cond := u_ws RJ10 TJ10 0
theorem nmJ10 : ∀ a, a < 0 → ∀ b, b < 0 → a ≠ b → (TJ10 a).2.1 ≠ (TJ10 b).2.1 := by decide +kernel
theorem tyJ10_ok : ∀ k, k < 0 → parseFieldDescriptor (TJ10 k).2.2.1 = some (tyJ10 k) := by decide +kernel
def RJxfd54e : String := "java/lang/constant/Constable"
def TJxfd54e : u_T := fun k => match k with
  | _ => ("", "", "", false)
def tyJxfd54e : Nat → FieldType := fun k => match k with
  | _ => .int
abbrev wsJxfd54e0 : List Cond := u_ws RJxfd54e TJxfd54e 0
theorem nmJxfd54e : ∀ a, a < 0 → ∀ b, b < 0 → a ≠ b → (TJxfd54e a).2.1 ≠ (TJxfd54e b).2.1 := by decide +kernel
theorem tyJxfd54e_ok : ∀ k, k < 0 → parseFieldDescriptor (TJxfd54e k).2.2.1 = some (tyJxfd54e k) := by decide +kernel
def RJx3cf43 : String := "java/lang/constant/ConstantDesc"
def TJx3cf43 : u_T := fun k => match k with
  | _ => ("", "", "", false)
def tyJx3cf43 : Nat → FieldType := fun k => match k with
  | _ => .int
abbrev wsJx3cf430 : List Cond := u_ws RJx3cf43 TJx3cf43 0
theorem nmJx3cf43 : ∀ a, a < 0 → ∀ b, b < 0 → a ≠ b → (TJx3cf43 a).2.1 ≠ (TJx3cf43 b).2.1 := by decide +kernel
theorem tyJx3cf43_ok : ∀ k, k < 0 → parseFieldDescriptor (TJx3cf43 k).2.2.1 = some (tyJx3cf43 k) := by decide +kernel
def RJ7 : String := "java/util/Arrays"
def TJ7 : u_T := fun k => match k with
  | _ => ("", "", "", false)
def tyJ7 : Nat → FieldType := fun k => match k with
  | _ => .int
abbrev wsJ70 : List Cond := u_ws RJ7 TJ7 0
theorem nmJ7 : ∀ a, a < 0 → ∀ b, b < 0 → a ≠ b → (TJ7 a).2.1 ≠ (TJ7 b).2.1 := by decide +kernel
theorem tyJ7_ok : ∀ k, k < 0 → parseFieldDescriptor (TJ7 k).2.2.1 = some (tyJ7 k) := by decide +kernel
abbrev cJ7_fill_d0a16 : ByteArray := prog_22_method_101_code
def yJ7_fill_d0a16 : MethodName := ⟨RJ7, "fill", "([JJ)V"⟩
abbrev cJ7_fill_53178 : ByteArray := prog_22_method_103_code
def yJ7_fill_53178 : MethodName := ⟨RJ7, "fill", "([II)V"⟩
abbrev cJ7_copyOf_59c91 : ByteArray := prog_22_method_123_code
def yJ7_copyOf_59c91 : MethodName := ⟨RJ7, "copyOf", "([II)[I"⟩
def RJ3 : String := "jdk/internal/util/Preconditions"
def TJ3 : u_T := fun k => match k with
  | _ => ("", "", "", false)
def tyJ3 : Nat → FieldType := fun k => match k with
  | _ => .int
abbrev wsJ30 : List Cond := u_ws RJ3 TJ3 0
theorem nmJ3 : ∀ a, a < 0 → ∀ b, b < 0 → a ≠ b → (TJ3 a).2.1 ≠ (TJ3 b).2.1 := by decide +kernel
theorem tyJ3_ok : ∀ k, k < 0 → parseFieldDescriptor (TJ3 k).2.2.1 = some (tyJ3 k) := by decide +kernel
abbrev cJ3_checkIndex_8e157 : ByteArray := prog_23_method_11_code
def yJ3_checkIndex_8e157 : MethodName := ⟨RJ3, "checkIndex", "(IILjava/util/function/BiFunction;)I"⟩
abbrev cJ3_checkFromToIndex_8c36e : ByteArray := prog_23_method_12_code
def yJ3_checkFromToIndex_8c36e : MethodName := ⟨RJ3, "checkFromToIndex", "(IIILjava/util/function/BiFunction;)I"⟩
def RL : String := "MirrorDrillLaw"
abbrev cL_law : ByteArray := code
def yL_law : MethodName := ⟨RL, "law", "([I)Z"⟩
end
section
/-! my own words: one list of words for all methods, worlds before and behind a method, calls, returns -/
def BIG : List Cond := lw_tbl.filter goodWord
theorem big_hts {args : Array Value} {s : State} (h : ∀ w ∈ lw_tbl, w.before args s = true) : ∀ w ∈ BIG, w.before args s = true := fun w hw => h w (List.mem_filter.mp hw).1
theorem big_tab {w : Cond} (h : w ∈ tables_1) (g : goodWord w = true) : w ∈ BIG := List.mem_filter.mpr ⟨List.mem_append_right _ h, g⟩
theorem big_sel {q : MethodName × Nat} (h : q ∈ lw_privs) : Cond.selects q.1.cls q.1 q.1 ∈ BIG := List.mem_filter.mpr ⟨List.mem_append_left _ (List.mem_map.mpr ⟨q, h, rfl⟩), rfl⟩
theorem big_good : ∀ w ∈ BIG, (w.onTables && w.keeps) = true ∨ ∃ ty, w = .arrayClass ty := fun _ h => good_of_word (List.mem_filter.mp h).2
theorem big_in {ws : List Cond} (h : ∀ w ∈ ws, w ∈ BIG) : GoodIn BIG ws := fun w hw => ⟨h w hw, big_good w (h w hw)⟩
abbrev classes : List vw_C := [(RX0, TX0, 9), (RX1, TX1, 5), (RX2, TX2, 15), (RX3, TX3, 4), (RX4, TX4, 10), (RX5, TX5, 5), (RX6, TX6, 2), (RX7, TX7, 16), (RX8, TX8, 17), (RX9, TX9, 17), (RX10, TX10, 80)]
abbrev TYS (cyB cyI cyJ cyZ : ClassId) : List (ClassId × FieldType) := [(cyB, .byte), (cyI, .int), (cyJ, .long), (cyZ, .boolean)]
def rmK (d mc ms : Nat) : Room := { frames := d, cells := mc, slots := ms, locals := 60 * d }
def Pre (D : va_G) (ty : List (ClassId × FieldType)) (ws : va_W) (sz : Nat) (U : State) : Prop := U.heap.size = sz ∧ va_P D classes ws U.heap ∧ va_K D classes ty U ∧ va_D (fun _ => True) ws
def Aft (D : va_G) (A : Nat → Prop) (ws : va_W) (t : State) : Prop := va_P D classes ws t.heap ∧ va_D A ws
def Ctx (p : Program) (s : State) (m : MethodId) (meth : Method) (c : Code) (args : Array Value) (cc : ByteArray) (nL : Nat) (ret : Option FieldType) (own nm : String) : Prop :=
  p.tables.exec = Jvm.exec ∧ c.code = cc ∧ meth.sig.returnType = ret ∧ c.maxLocals = nL ∧ s.vm.findClass own = some m.cls ∧ (∀ w ∈ BIG, w.before args s = true) ∧ meth.locks = false ∧ meth.name = nm
theorem fmap_of {α : Type} {ws : List α} {is : List Nat} {wc : List α} (h : is.map (fun i => ws[i]?) = wc.map some) : is.filterMap (fun i => ws[i]?) = wc := by
  have h1 : is.filterMap (fun i => ws[i]?) = (is.map (fun i => ws[i]?)).filterMap id := by rw [List.filterMap_map]; rfl
  rw [h1, h, List.filterMap_map]
  induction wc with
  | nil => rfl
  | cons a t ih => simp
abbrev KI (l : Launch) (y : MethodName) (cc : ByteArray) (n : Nat) (ret : FieldType) (d mc ms : Nat) (D : va_G) (ty : List (ClassId × FieldType)) (ws : va_W) (sz : Nat) (av : List Value) {S : Type} (post : Int32 → S → Prop) (w1 : S → va_W) : Prop :=
  Met l y (.code y cc n (some ret) :: BIG) (rmK d mc ms) (va_Pc av (Pre D ty ws sz)) (va_Qi post (fun u => Aft D (va_A ws sz) (w1 u)) (va_A ws sz)) mc ms (va_A ws sz)
abbrev KL (l : Launch) (y : MethodName) (cc : ByteArray) (n : Nat) (d mc ms : Nat) (D : va_G) (ty : List (ClassId × FieldType)) (ws : va_W) (sz : Nat) (av : List Value) {S : Type} (post : Int64 → S → Prop) (w1 : S → va_W) : Prop :=
  Met l y (.code y cc n (some .long) :: BIG) (rmK d mc ms) (va_Pc av (Pre D ty ws sz)) (va_Ql post (fun u => Aft D (va_A ws sz) (w1 u)) (va_A ws sz)) mc ms (va_A ws sz)
abbrev KV (l : Launch) (y : MethodName) (cc : ByteArray) (n : Nat) (d mc ms : Nat) (D : va_G) (ty : List (ClassId × FieldType)) (ws : va_W) (sz : Nat) (av : List Value) {S : Type} (post : S → Prop) (w1 : S → va_W) : Prop :=
  Met l y (.code y cc n none :: BIG) (rmK d mc ms) (va_Pc av (Pre D ty ws sz)) (va_Qv post (fun u => Aft D (va_A ws sz) (w1 u)) (va_A ws sz)) mc ms (va_A ws sz)
theorem ent0 {l : Launch} {y : MethodName} {cc : ByteArray} {n : Nat} {ret : Option FieldType} {d mc ms : Nat} {D : va_G} {ty : List (ClassId × FieldType)} {ws : va_W} {sz : Nat} {av : List Value} {Qc : (Nat → Prop) → Array Value → State → Outcome → State → Prop} (hy : plainName y.cls = true) (hlen : (lg_sl av).length ≤ n)
    (body : ∀ (p : Program) (e : Env) (s : State) (m : MethodId) (below : List Frame) (meth : Method) (c : Code) (ls : Array Slot) (A : Nat → Prop), Ctx p s m meth c av.toArray cc n ret y.cls y.name → lv_has ls n (lv_args 0 av) → va_P D classes ws s.heap → va_K D classes ty s → va_D A ws → (∀ q, s.heap.size ≤ q → A q) →
      W p l e (rmK d mc ms) s m av.toArray below meth c s.heap [] 0 0 (MQ below (Qc A) av.toArray s mc ms A) (F0 m 0 ls [])) :
    Met l y (.code y cc n ret :: BIG) (rmK d mc ms) (va_Pc av (Pre D ty ws sz)) (Qc (va_A ws sz)) mc ms (va_A ws sz) := by
  refine Met.ofW (cc := cc) (maxL := n) (ret := ret) hy rfl ?_
  intro p e s m args below meth c s₁ B hml hv
  obtain ⟨rfl, hsz, hP, hK, hD0⟩ := hv
  have hts := atoms_spec (ws := .code y cc n ret :: BIG) B.pre
  have hl := lv_entry av (n := n) hlen
  rw [lg_entry_eq]
  subst hsz
  exact body p e s m below meth c _ (va_A ws s.heap.size) ⟨B.exec, B.bytes, B.returns, hml, findClass_of_methodNamed B.named, fun w h => hts w (List.mem_cons_of_mem _ h), B.notSynchronized, (name_of_methodNamed B.named B.method).1⟩ hl hP hK hD0.self (fun q h => Or.inr h)
theorem entI {l : Launch} {y : MethodName} {cc : ByteArray} {n : Nat} {ret : FieldType} {d mc ms : Nat} {D : va_G} {ty : List (ClassId × FieldType)} {ws : va_W} {sz : Nat} {av : List Value} {S : Type} {post : Int32 → S → Prop} {w1 : S → va_W} (hy : plainName y.cls = true) (hlen : (lg_sl av).length ≤ n)
    (body : ∀ (p : Program) (e : Env) (s : State) (m : MethodId) (below : List Frame) (meth : Method) (c : Code) (ls : Array Slot) (A : Nat → Prop), Ctx p s m meth c av.toArray cc n (some ret) y.cls y.name → lv_has ls n (lv_args 0 av) → va_P D classes ws s.heap → va_K D classes ty s → va_D A ws → (∀ q, s.heap.size ≤ q → A q) →
      W p l e (rmK d mc ms) s m av.toArray below meth c s.heap [] 0 0 (MQ below (va_Qi post (fun u => Aft D A (w1 u)) A) av.toArray s mc ms A) (F0 m 0 ls [])) : KI l y cc n ret d mc ms D ty ws sz av post w1 :=
  ent0 (Qc := fun A => va_Qi post (fun u => Aft D A (w1 u)) A) hy hlen body
theorem entL {l : Launch} {y : MethodName} {cc : ByteArray} {n : Nat} {d mc ms : Nat} {D : va_G} {ty : List (ClassId × FieldType)} {ws : va_W} {sz : Nat} {av : List Value} {S : Type} {post : Int64 → S → Prop} {w1 : S → va_W} (hy : plainName y.cls = true) (hlen : (lg_sl av).length ≤ n)
    (body : ∀ (p : Program) (e : Env) (s : State) (m : MethodId) (below : List Frame) (meth : Method) (c : Code) (ls : Array Slot) (A : Nat → Prop), Ctx p s m meth c av.toArray cc n (some .long) y.cls y.name → lv_has ls n (lv_args 0 av) → va_P D classes ws s.heap → va_K D classes ty s → va_D A ws → (∀ q, s.heap.size ≤ q → A q) →
      W p l e (rmK d mc ms) s m av.toArray below meth c s.heap [] 0 0 (MQ below (va_Ql post (fun u => Aft D A (w1 u)) A) av.toArray s mc ms A) (F0 m 0 ls [])) : KL l y cc n d mc ms D ty ws sz av post w1 :=
  ent0 (Qc := fun A => va_Ql post (fun u => Aft D A (w1 u)) A) hy hlen body
theorem entV {l : Launch} {y : MethodName} {cc : ByteArray} {n : Nat} {d mc ms : Nat} {D : va_G} {ty : List (ClassId × FieldType)} {ws : va_W} {sz : Nat} {av : List Value} {S : Type} {post : S → Prop} {w1 : S → va_W} (hy : plainName y.cls = true) (hlen : (lg_sl av).length ≤ n)
    (body : ∀ (p : Program) (e : Env) (s : State) (m : MethodId) (below : List Frame) (meth : Method) (c : Code) (ls : Array Slot) (A : Nat → Prop), Ctx p s m meth c av.toArray cc n none y.cls y.name → lv_has ls n (lv_args 0 av) → va_P D classes ws s.heap → va_K D classes ty s → va_D A ws → (∀ q, s.heap.size ≤ q → A q) →
      W p l e (rmK d mc ms) s m av.toArray below meth c s.heap [] 0 0 (MQ below (va_Qv post (fun u => Aft D A (w1 u)) A) av.toArray s mc ms A) (F0 m 0 ls [])) : KV l y cc n d mc ms D ty ws sz av post w1 :=
  ent0 (Qc := fun A => va_Qv post (fun u => Aft D A (w1 u)) A) hy hlen body
def CVw (y : MethodName) (bytes : ByteArray) (maxL : Nat) (ret : Option FieldType) (n : Nat) : Prop := Cond.instanceMethod y ∈ BIG ∧ Cond.selects y.cls y y ∈ BIG ∧ Cond.initialized y.cls ∈ BIG ∧ Cond.code y bytes maxL ret ∈ BIG ∧ (y.cls ≠ "java/lang/invoke/MethodHandle" ∧ y.cls ≠ "java/lang/invoke/VarHandle" ∧ (parseMethodDescriptor y.desc).map (fun d => d.parameters.length) = some n)
def CSw (y : MethodName) (bytes : ByteArray) (maxL : Nat) (ret : Option FieldType) (n : Nat) : Prop := Cond.static y ∈ BIG ∧ Cond.initialized y.cls ∈ BIG ∧ Cond.code y bytes maxL ret ∈ BIG ∧ (y.cls ≠ "java/lang/invoke/MethodHandle" ∧ y.cls ≠ "java/lang/invoke/VarHandle" ∧ (parseMethodDescriptor y.desc).map (fun d => d.parameters.length) = some n)
def CIw (y : MethodName) (bytes : ByteArray) (maxL : Nat) (n : Nat) : Prop := Cond.instanceMethod y ∈ BIG ∧ Cond.initialized y.cls ∈ BIG ∧ Cond.code y bytes maxL none ∈ BIG ∧ y.name = "<init>" ∧ (y.cls ≠ "java/lang/invoke/MethodHandle" ∧ y.cls ≠ "java/lang/invoke/VarHandle" ∧ (parseMethodDescriptor y.desc).map (fun d => d.parameters.length) = some n)
section CALLS
variable {p : Program} {l : Launch} {e : Env} {R : Room} {s : State} {m : MethodId} {args : Array Value} {below : List Frame} {meth : Method} {c : Code} {H H0 : Heap} {locs : List Loc} {cells slots : Nat} {Q : State → Prop} {cc : ByteArray} {nL pc idx : Nat} {own nm : String} {retO : Option FieldType} {ls : Array Slot} {D : va_G} {ty : List (ClassId × FieldType)} {A : Nat → Prop}
theorem pre_fb {wc : va_W} {sz : Nat} {av : List Value} : FrameBlind (va_Pc av (Pre D ty wc sz)) := fun a U g mk q => ⟨q.1, q.2.1, q.2.2.1, va_K.moved (u := U) (U := U.calling g mk a) (Vm.Alike.refl U.vm) q.2.2.2.1, q.2.2.2.2⟩
theorem pre_now {wc : va_W} {av : List Value} (hK : va_K D classes ty s) (hPc : va_P D classes wc H) (hDc : va_D A wc) : ∀ U : State, U.heap = H → s.WarmedH U.vm → va_Pc av (Pre D ty wc H.size) av.toArray U := fun U hU hW => ⟨rfl, by rw [hU], by rw [hU]; exact hPc, va_K.moved hW.alike hK, hDc.weaken (fun _ _ _ _ => trivial)⟩
theorem cb_in {y : MethodName} {bytes : ByteArray} {maxL d mc ms n : Nat} {ret : Option FieldType} (hts : ∀ w ∈ BIG, w.before args s = true) (w1 : Cond.methodLink own idx y ∈ BIG) (w4 : Cond.initialized y.cls ∈ BIG) (w5 : Cond.code y bytes maxL ret ∈ BIG)
    (hd : y.cls ≠ "java/lang/invoke/MethodHandle" ∧ y.cls ≠ "java/lang/invoke/VarHandle" ∧ (parseMethodDescriptor y.desc).map (fun d => d.parameters.length) = some n) (hR : d + 1 ≤ R.frames ∧ 8 + (maxL + 11) + 60 * d ≤ R.locals) :
    CallB R s args own idx y bytes maxL ret (.code y bytes maxL ret :: BIG) (rmK d mc ms) mc ms n :=
  callB_of n hts (big_in (fun w h => by rcases List.mem_cons.mp h with rfl | h; exact w5; exact h)) rfl rfl rfl (hts _ w4) (hts _ w1) hd hR
theorem runV {y : MethodName} {bytes : ByteArray} {maxL d mc ms n : Nat} {ret : Option FieldType} {Qc : Array Value → State → Outcome → State → Prop} {wc ws : va_W} {b : Nat} {As rest st : List Value}
    (hC : Ctx p s m meth c args cc nL retO own nm) (hK : va_K D classes ty s) (hP : va_P D classes ws H) (hD : va_D A ws) (hls : ls.size = nL)
    (hM : Met l y (.code y bytes maxL ret :: BIG) (rmK d mc ms) (va_Pc (.ref b :: As) (Pre D ty wc H.size)) Qc mc ms (va_A wc H.size)) (cv : CVw y bytes maxL ret n) (w1 : Cond.methodLink own idx y ∈ BIG)
    (isC : List Nat) (hCw : isC.map (fun i => ws[i]?) = wc.map some) (hnd : va_nd isC = true) (q0 : Nat) {ci : Nat} {q : vw_C} {fs : List Value} (he : ws[q0]? = some (b, .inr (ci, fs))) (hc : classes[ci]? = some q) (hq : q.1 = y.cls)
    (hn : As.length = n) (hst : st = As.reverse ++ .ref b :: rest) (hW : (rest.map fun v => v.category).sum ≤ 8) (hR : d + 1 ≤ R.frames ∧ 8 + (maxL + 11) + 60 * d ≤ R.locals) (hf : cells + mc ≤ R.cells ∧ slots + ms ≤ R.slots) (hdg : decode cc pc = .ok (.invokevirtual idx, 3)) :
    va_Run p l e R s m args below meth c H locs cells slots mc ms (F0 m pc ls st) rest (Qc (Value.ref b :: As).toArray) (va_A wc H.size) := by
  obtain ⟨hx, hb, -, hml, hown, hts, -, -⟩ := hC
  obtain ⟨v1, v2, v3, v4, v5⟩ := cv
  have hr := va_recv hK hP hc he
  rw [hq] at hr
  exact va_runV (C := y.cls) ⟨hx, hb, hml, hown, hts⟩ hM ⟨cb_in hts w1 v3 v4 v5 hR, hts _ v1, hts _ v2⟩ ⟨pre_fb, hr, pre_now hK (hP.sub isC (fmap_of hCw)) (hD.sub isC hnd hCw)⟩ rfl hn hls hst (lv_room hW) hdg hf
theorem runS {y : MethodName} {bytes : ByteArray} {maxL d mc ms n : Nat} {ret : Option FieldType} {Qc : Array Value → State → Outcome → State → Prop} {wc ws : va_W} {As rest st : List Value}
    (hC : Ctx p s m meth c args cc nL retO own nm) (hK : va_K D classes ty s) (hP : va_P D classes ws H) (hD : va_D A ws) (hls : ls.size = nL)
    (hM : Met l y (.code y bytes maxL ret :: BIG) (rmK d mc ms) (va_Pc As (Pre D ty wc H.size)) Qc mc ms (va_A wc H.size)) (cv : CSw y bytes maxL ret n) (w1 : Cond.methodLink own idx y ∈ BIG)
    (isC : List Nat) (hCw : isC.map (fun i => ws[i]?) = wc.map some) (hnd : va_nd isC = true)
    (hn : As.length = n) (hst : st = As.reverse ++ rest) (hW : (rest.map fun v => v.category).sum ≤ 8) (hR : d + 1 ≤ R.frames ∧ 8 + (maxL + 11) + 60 * d ≤ R.locals) (hf : cells + mc ≤ R.cells ∧ slots + ms ≤ R.slots) (hdg : decode cc pc = .ok (.invokestatic idx, 3)) :
    va_Run p l e R s m args below meth c H locs cells slots mc ms (F0 m pc ls st) rest (Qc As.toArray) (va_A wc H.size) := by
  obtain ⟨hx, hb, -, hml, hown, hts, -, -⟩ := hC
  obtain ⟨v1, v3, v4, v5⟩ := cv
  exact va_runS ⟨hx, hb, hml, hown, hts⟩ hM ⟨cb_in hts w1 v3 v4 v5 hR, hts _ v1⟩ ⟨pre_fb, pre_now hK (hP.sub isC (fmap_of hCw)) (hD.sub isC hnd hCw)⟩ rfl hn hls hst (lv_room hW) hdg hf
theorem runI {y : MethodName} {bytes : ByteArray} {maxL d mc ms n : Nat} {Qc : Array Value → State → Outcome → State → Prop} {wc ws : va_W} {b : Nat} {As rest st : List Value}
    (hC : Ctx p s m meth c args cc nL retO own nm) (hK : va_K D classes ty s) (hP : va_P D classes ws H) (hD : va_D A ws) (hls : ls.size = nL)
    (hM : Met l y (.code y bytes maxL none :: BIG) (rmK d mc ms) (va_Pc (.ref b :: As) (Pre D ty wc H.size)) Qc mc ms (va_A wc H.size)) (cv : CIw y bytes maxL n) (w1 : Cond.methodLink own idx y ∈ BIG)
    (isC : List Nat) (hCw : isC.map (fun i => ws[i]?) = wc.map some) (hnd : va_nd isC = true)
    (hn : As.length = n) (hst : st = As.reverse ++ .ref b :: rest) (hW : (rest.map fun v => v.category).sum ≤ 8) (hR : d + 1 ≤ R.frames ∧ 8 + (maxL + 11) + 60 * d ≤ R.locals) (hf : cells + mc ≤ R.cells ∧ slots + ms ≤ R.slots) (hdg : decode cc pc = .ok (.invokespecial idx, 3)) :
    va_Run p l e R s m args below meth c H locs cells slots mc ms (F0 m pc ls st) rest (Qc (Value.ref b :: As).toArray) (va_A wc H.size) := by
  obtain ⟨hx, hb, -, hml, hown, hts, -, -⟩ := hC
  obtain ⟨v1, v3, v4, v6, v5⟩ := cv
  exact va_runI ⟨hx, hb, hml, hown, hts⟩ hM ⟨cb_in hts w1 v3 v4 v5 hR, v6, hts _ v1⟩ ⟨pre_fb, pre_now hK (hP.sub isC (fmap_of hCw)) (hD.sub isC hnd hCw)⟩ rfl hn hls hst (lv_room hW) hdg hf
theorem aftI {S : Type} {post : Int32 → S → Prop} {w1 : S → va_W} {wc wr ws : va_W} {a : Array Value} {rest st : List Value} {mc ms : Nat}
    (hr : va_Run p l e R s m args below meth c H locs cells slots mc ms (F0 m pc ls st) rest (va_Qi post (fun u => Aft D (va_A wc H.size) (w1 u)) (va_A wc H.size) a) (va_A wc H.size))
    (hP : va_P D classes ws H) (hD : va_D A ws) (hS : va_S A H0 H locs) (hA : ∀ q, H0.size ≤ q → A q) (isC isR : List Nat) (hCw : isC.map (fun i => ws[i]?) = wc.map some) (hRw : isR.map (fun i => ws[i]?) = wr.map some) (hn : va_nd isR = true) (hdis : ∀ i ∈ isR, i ∉ isC)
    (kk : ∀ (r : Int32) (u : S) (H1 : Heap) (locs1 : List Loc), post r u → va_P D classes (wr ++ w1 u) H1 → va_D A (wr ++ w1 u) → va_S A H0 H1 locs1 → W p l e R s m args below meth c H1 locs1 (cells + mc) (slots + ms) Q (F0 m (pc + 3) ls (.int r :: rest))) : W p l e R s m args below meth c H locs cells slots Q (F0 m pc ls st) := by
  have hFc := va_free (wc := wc) hD hS hA isC hCw
  refine va_calli hr hS (fun q _ h => hFc q h) hFc (fun r u t H1 locs ht hvm hw hB hz1 hk1 hS => ?_)
  obtain ⟨hP1, hD1⟩ := hB
  rw [ht] at hP1
  obtain ⟨hP2, hD2⟩ := va_join (wr := wr) (w1 := w1 u) hP hD isC isR hCw hRw hn hdis hk1 hFc hP1 hD1
  exact kk r u H1 locs hw hP2 hD2 hS
theorem aftL {S : Type} {post : Int64 → S → Prop} {w1 : S → va_W} {wc wr ws : va_W} {a : Array Value} {rest st : List Value} {mc ms : Nat}
    (hr : va_Run p l e R s m args below meth c H locs cells slots mc ms (F0 m pc ls st) rest (va_Ql post (fun u => Aft D (va_A wc H.size) (w1 u)) (va_A wc H.size) a) (va_A wc H.size))
    (hP : va_P D classes ws H) (hD : va_D A ws) (hS : va_S A H0 H locs) (hA : ∀ q, H0.size ≤ q → A q) (isC isR : List Nat) (hCw : isC.map (fun i => ws[i]?) = wc.map some) (hRw : isR.map (fun i => ws[i]?) = wr.map some) (hn : va_nd isR = true) (hdis : ∀ i ∈ isR, i ∉ isC)
    (kk : ∀ (r : Int64) (u : S) (H1 : Heap) (locs1 : List Loc), post r u → va_P D classes (wr ++ w1 u) H1 → va_D A (wr ++ w1 u) → va_S A H0 H1 locs1 → W p l e R s m args below meth c H1 locs1 (cells + mc) (slots + ms) Q (F0 m (pc + 3) ls (.long r :: rest))) : W p l e R s m args below meth c H locs cells slots Q (F0 m pc ls st) := by
  have hFc := va_free (wc := wc) hD hS hA isC hCw
  refine va_calll hr hS (fun q _ h => hFc q h) hFc (fun r u t H1 locs ht hvm hw hB hz1 hk1 hS => ?_)
  obtain ⟨hP1, hD1⟩ := hB
  rw [ht] at hP1
  obtain ⟨hP2, hD2⟩ := va_join (wr := wr) (w1 := w1 u) hP hD isC isR hCw hRw hn hdis hk1 hFc hP1 hD1
  exact kk r u H1 locs hw hP2 hD2 hS
theorem aftV {S : Type} {post : S → Prop} {w1 : S → va_W} {wc wr ws : va_W} {a : Array Value} {rest st : List Value} {mc ms : Nat}
    (hr : va_Run p l e R s m args below meth c H locs cells slots mc ms (F0 m pc ls st) rest (va_Qv post (fun u => Aft D (va_A wc H.size) (w1 u)) (va_A wc H.size) a) (va_A wc H.size))
    (hP : va_P D classes ws H) (hD : va_D A ws) (hS : va_S A H0 H locs) (hA : ∀ q, H0.size ≤ q → A q) (isC isR : List Nat) (hCw : isC.map (fun i => ws[i]?) = wc.map some) (hRw : isR.map (fun i => ws[i]?) = wr.map some) (hn : va_nd isR = true) (hdis : ∀ i ∈ isR, i ∉ isC)
    (kk : ∀ (u : S) (H1 : Heap) (locs1 : List Loc), post u → va_P D classes (wr ++ w1 u) H1 → va_D A (wr ++ w1 u) → va_S A H0 H1 locs1 → W p l e R s m args below meth c H1 locs1 (cells + mc) (slots + ms) Q (F0 m (pc + 3) ls rest)) : W p l e R s m args below meth c H locs cells slots Q (F0 m pc ls st) := by
  have hFc := va_free (wc := wc) hD hS hA isC hCw
  refine va_callv hr hS (fun q _ h => hFc q h) hFc (fun u t H1 locs ht hvm hw hB hz1 hk1 hS => ?_)
  obtain ⟨hP1, hD1⟩ := hB
  rw [ht] at hP1
  obtain ⟨hP2, hD2⟩ := va_join (wr := wr) (w1 := w1 u) hP hD isC isR hCw hRw hn hdis hk1 hFc hP1 hD1
  exact kk u H1 locs hw hP2 hD2 hS
theorem retI {S : Type} {post : Int32 → S → Prop} {w1 : S → va_W} {ws : va_W} {v : Int32} {mc ms : Nat} (hC : Ctx p s m meth c args cc nL (some .int) own nm) (hP : va_P D classes ws H) (hD : va_D A ws) (hS : va_S A s.heap H locs) (hc : cells ≤ mc) (hs : slots ≤ ms) (u : S) (is : List Nat) (hi : is.map (fun i => ws[i]?) = (w1 u).map some) (hn : va_nd is = true) (hp : post v u) (hdg : decode cc pc = .ok (.ireturn, 1)) :
    W p l e R s m args below meth c H locs cells slots (MQ below (va_Qi post (fun u => Aft D A (w1 u)) A) args s mc ms A) (F0 m pc ls [.int v]) := by
  obtain ⟨hx, hb, hr, -, -, -, hlk, -⟩ := hC
  exact W.widen hc hs (W.iret (v := v) hx hb hr (fun t ht _ => ⟨⟨v, u, rfl, hp, by rw [ht]; exact hP.sub is (fmap_of hi), hD.sub is hn hi⟩, hS.F ht⟩) hS.2.2 hdg hlk)
theorem retZ {S : Type} {post : Int32 → S → Prop} {w1 : S → va_W} {ws : va_W} {v : Int32} {mc ms : Nat} (hC : Ctx p s m meth c args cc nL (some .boolean) own nm) (hP : va_P D classes ws H) (hD : va_D A ws) (hS : va_S A s.heap H locs) (hc : cells ≤ mc) (hs : slots ≤ ms) (u : S) (is : List Nat) (hi : is.map (fun i => ws[i]?) = (w1 u).map some) (hn : va_nd is = true) (hp : post v u) (hnar : narrow .boolean (.int v) = .int v) (hdg : decode cc pc = .ok (.ireturn, 1)) :
    W p l e R s m args below meth c H locs cells slots (MQ below (va_Qi post (fun u => Aft D A (w1 u)) A) args s mc ms A) (F0 m pc ls [.int v]) := by
  obtain ⟨hx, hb, hr, -, -, -, hlk, -⟩ := hC
  exact W.widen hc hs (W.zret (v := v) hx hb hr hnar (fun t ht _ => ⟨⟨v, u, rfl, hp, by rw [ht]; exact hP.sub is (fmap_of hi), hD.sub is hn hi⟩, hS.F ht⟩) hS.2.2 hdg hlk)
theorem retL {S : Type} {post : Int64 → S → Prop} {w1 : S → va_W} {ws : va_W} {v : Int64} {mc ms : Nat} (hC : Ctx p s m meth c args cc nL (some .long) own nm) (hP : va_P D classes ws H) (hD : va_D A ws) (hS : va_S A s.heap H locs) (hc : cells ≤ mc) (hs : slots ≤ ms) (u : S) (is : List Nat) (hi : is.map (fun i => ws[i]?) = (w1 u).map some) (hn : va_nd is = true) (hp : post v u) (hdg : decode cc pc = .ok (.lreturn, 1)) :
    W p l e R s m args below meth c H locs cells slots (MQ below (va_Ql post (fun u => Aft D A (w1 u)) A) args s mc ms A) (F0 m pc ls [.long v]) := by
  obtain ⟨hx, hb, hr, -, -, -, hlk, -⟩ := hC
  exact W.widen hc hs (W.lret (v := v) hx hb hr (fun t ht _ => ⟨⟨v, u, rfl, hp, by rw [ht]; exact hP.sub is (fmap_of hi), hD.sub is hn hi⟩, hS.F ht⟩) hS.2.2 hdg hlk)
theorem retV {S : Type} {post : S → Prop} {w1 : S → va_W} {ws : va_W} {mc ms : Nat} (hC : Ctx p s m meth c args cc nL none own nm) (hP : va_P D classes ws H) (hD : va_D A ws) (hS : va_S A s.heap H locs) (hc : cells ≤ mc) (hs : slots ≤ ms) (u : S) (is : List Nat) (hi : is.map (fun i => ws[i]?) = (w1 u).map some) (hn : va_nd is = true) (hp : post u) (hdg : decode cc pc = .ok (.return_, 1)) :
    W p l e R s m args below meth c H locs cells slots (MQ below (va_Qv post (fun u => Aft D A (w1 u)) A) args s mc ms A) (F0 m pc ls []) := by
  obtain ⟨hx, hb, hr, -, -, -, hlk, -⟩ := hC
  exact W.widen hc hs (W.vret hx hb hr (fun t ht _ => ⟨⟨u, rfl, hp, by rw [ht]; exact hP.sub is (fmap_of hi), hD.sub is hn hi⟩, hS.F ht⟩) hS.2.2 hdg hlk)
theorem gf {ws : va_W} {a : Nat} {rest : List Value} {C : String} {T : u_T} {N ci : Nat} {fs : List Value} {v : Value} (hC : Ctx p s m meth c args cc nL retO own nm) (hK : va_K D classes ty s) (hP : va_P D classes ws H) (hin : ∀ w ∈ u_ws C T N, w ∈ BIG) (q0 : Nat) (he : ws[q0]? = some (a, .inr (ci, fs))) (hc : classes[ci]? = some (C, T, N)) (k : Nat) (hk : k < N) (hl : Cond.fieldLink own idx (T k).1 (T k).2.1 (T k).2.2.1 ∈ BIG) (hv : fs[k]? = some v) (hdg : decode cc pc = .ok (.getfield idx, 3))
    (kk : W p l e R s m args below meth c H locs cells slots Q (F0 m (pc + 3) ls (v :: rest))) : W p l e R s m args below meth c H locs cells slots Q (F0 m pc ls (.ref a :: rest)) := by
  obtain ⟨hx, hb, -, -, hown, hts, -, -⟩ := hC
  exact va_get hx hb hts hin hown hK hP q0 he hc k hk (hts _ hl) (fun _ h => h) hv hdg kk
theorem pf {ws : va_W} {a : Nat} {rest : List Value} {C : String} {T : u_T} {N ci : Nat} {fs : List Value} {v : Value} (hC : Ctx p s m meth c args cc nL retO own nm) (hK : va_K D classes ty s) (hP : va_P D classes ws H) (hD : va_D A ws) (hS : va_S A H0 H locs) (hin : ∀ w ∈ u_ws C T N, w ∈ BIG) {ty0 : Nat → FieldType} (hty : ∀ k, k < N → parseFieldDescriptor (T k).2.2.1 = some (ty0 k)) (hnm : ∀ a, a < N → ∀ b, b < N → a ≠ b → (T a).2.1 ≠ (T b).2.1) (q0 : Nat) (he : ws[q0]? = some (a, .inr (ci, fs))) (hc : classes[ci]? = some (C, T, N)) (k : Nat) (hk : k < N) (hl : Cond.fieldLink own idx (T k).1 (T k).2.1 (T k).2.2.1 ∈ BIG) (hfin : (T k).2.2.2 = false) (hn : narrow (ty0 k) v = v) (hfit : fits (ty0 k) v = true) (hlen : k < fs.length) (hdg : decode cc pc = .ok (.putfield idx, 3))
    (kk : ∀ (H1 : Heap) (locs1 : List Loc), va_P D classes (ws.set q0 (a, .inr (ci, fs.set k v))) H1 → va_D A (ws.set q0 (a, .inr (ci, fs.set k v))) → va_S A H0 H1 locs1 → W p l e R s m args below meth c H1 locs1 cells slots Q (F0 m (pc + 3) ls rest)) : W p l e R s m args below meth c H locs cells slots Q (F0 m pc ls (v :: .ref a :: rest)) := by
  obtain ⟨hx, hb, -, -, hown, hts, -, -⟩ := hC
  exact va_put hx hb hts hin ty0 hty hnm hown hK hP hD hS q0 he hc k hk (hts _ hl) (fun _ h => h) hfin (hty k hk) hn hfit hlen hdg kk
theorem pfF {ws : va_W} {a : Nat} {rest : List Value} {C : String} {T : u_T} {N ci : Nat} {fs : List Value} {v : Value} (hC : Ctx p s m meth c args cc nL retO own "<init>") (hK : va_K D classes ty s) (hP : va_P D classes ws H) (hD : va_D A ws) (hS : va_S A H0 H locs) (hin : ∀ w ∈ u_ws C T N, w ∈ BIG) {ty0 : Nat → FieldType} (hty : ∀ k, k < N → parseFieldDescriptor (T k).2.2.1 = some (ty0 k)) (hnm : ∀ a, a < N → ∀ b, b < N → a ≠ b → (T a).2.1 ≠ (T b).2.1) (q0 : Nat) (he : ws[q0]? = some (a, .inr (ci, fs))) (hc : classes[ci]? = some (C, T, N)) (k : Nat) (hk : k < N) (hl : Cond.fieldLink own idx (T k).1 (T k).2.1 (T k).2.2.1 ∈ BIG) (hfin : (T k).2.2.2 = true) (hdecl : (T k).1 = own) (hn : narrow (ty0 k) v = v) (hfit : fits (ty0 k) v = true) (hlen : k < fs.length) (hdg : decode cc pc = .ok (.putfield idx, 3))
    (kk : ∀ (H1 : Heap) (locs1 : List Loc), va_P D classes (ws.set q0 (a, .inr (ci, fs.set k v))) H1 → va_D A (ws.set q0 (a, .inr (ci, fs.set k v))) → va_S A H0 H1 locs1 → W p l e R s m args below meth c H1 locs1 cells slots Q (F0 m (pc + 3) ls rest)) : W p l e R s m args below meth c H locs cells slots Q (F0 m pc ls (v :: .ref a :: rest)) := by
  obtain ⟨hx, hb, -, -, hown, hts, -, hnm2⟩ := hC
  exact va_putF hx hb hts hin ty0 hty hnm hown hK hP hD hS q0 he hc k hk (hts _ hl) (fun _ h => h) hfin hnm2 hdecl (hty k hk) hn hfit hlen hdg kk
theorem lv_cst {x v : Int32} {rest : List Value} (h : x = v) (k : W p l e R s m args below meth c H locs cells slots Q (F0 m pc ls (.int v :: rest))) : W p l e R s m args below meth c H locs cells slots Q (F0 m pc ls (.int x :: rest)) := h ▸ k
theorem lv_cstL {x v : Int64} {rest : List Value} (h : x = v) (k : W p l e R s m args below meth c H locs cells slots Q (F0 m pc ls (.long v :: rest))) : W p l e R s m args below meth c H locs cells slots Q (F0 m pc ls (.long x :: rest)) := h ▸ k
end CALLS
theorem gs_eq {fs : List Value} {k : Nat} {v : Value} (h : k < fs.length) : (fs.set k v)[k]? = some v := by rw [List.getElem?_set_self h]
theorem gs_ne {fs : List Value} {j k : Nat} {v : Value} {o : Option Value} (h : k ≠ j) (hj : fs[j]? = o) : (fs.set k v)[j]? = o := by rw [List.getElem?_set_ne h]; exact hj
theorem ln_set {fs : List Value} {k N : Nat} {v : Value} (h : fs.length = N) : (fs.set k v).length = N := by rw [List.length_set]; exact h
theorem ln_lt {fs : List Value} {k N : Nat} (h : fs.length = N) (hk : k < N) : k < fs.length := by rw [h]; exact hk
section NEWS
variable {p : Program} {l : Launch} {e : Env} {R : Room} {s : State} {m : MethodId} {args : Array Value} {below : List Frame} {meth : Method} {c : Code} {H H0 : Heap} {locs : List Loc} {cells slots : Nat} {Q : State → Prop} {cc : ByteArray} {nL pc idx : Nat} {own nm : String} {retO : Option FieldType} {ls : Array Slot} {D : va_G} {A : Nat → Prop} {cyB cyI cyJ cyZ : ClassId} {ws : va_W} {n : Int32} {N : Nat} {rest : List Value}
theorem nwI (hC : Ctx p s m meth c args cc nL retO own nm) (hw : Cond.arrayClass .int ∈ BIG) (hK : va_K D classes (TYS cyB cyI cyJ cyZ) s) (hP : va_P D classes ws H) (hD : va_D A ws) (hS : va_S A H0 H locs) (hA : ∀ q, H0.size ≤ q → A q) (hn : ¬ n < 0) (hN : n.toNatClampNeg = N) (hbytes : N * componentBytes .int ≤ 536870912) (hcells : cells + 1 ≤ R.cells) (hslots : slots + N ≤ R.slots) (hdg : decode cc pc = .ok (.newarray .int, 2)) 
    (kk : ∀ (q : Nat) (H1 : Heap), va_P D classes (ws ++ [(q, .inl (cyI, N, .inl (fun _ => 0)))]) H1 → va_D A (ws ++ [(q, .inl (cyI, N, .inl (fun _ => 0)))]) → va_S A H0 H1 locs → W p l e R s m args below meth c H1 locs (cells + 1) (slots + N) Q (F0 m (pc + 2) ls (.ref q :: rest))) : W p l e R s m args below meth c H locs cells slots Q (F0 m pc ls (.int n :: rest)) := by
  obtain ⟨hx, hb, -, -, hown, hts, -, -⟩ := hC
  refine va_newa (atype := .int) hx hb (hts _ hw) rfl hK hP hD hS hA (a0 := (N, .inl (fun _ => 0))) (fun _ => rfl) hn hN hbytes hcells hslots hdg (fun q cA H1 hK1 hP1 hD1 hS1 => ?_)
  have h1 := (hK1.2 4 (cA, .int) rfl).2
  have h2 := (hK1.2 1 (cyI, .int) rfl).2
  have h3 : cA = cyI := Option.some.inj (h1.symm.trans h2)
  subst h3
  exact kk q H1 hP1 hD1 hS1
theorem nwB (hC : Ctx p s m meth c args cc nL retO own nm) (hw : Cond.arrayClass .byte ∈ BIG) (hK : va_K D classes (TYS cyB cyI cyJ cyZ) s) (hP : va_P D classes ws H) (hD : va_D A ws) (hS : va_S A H0 H locs) (hA : ∀ q, H0.size ≤ q → A q) (hn : ¬ n < 0) (hN : n.toNatClampNeg = N) (hbytes : N * componentBytes .byte ≤ 536870912) (hcells : cells + 1 ≤ R.cells) (hslots : slots + N ≤ R.slots) (hdg : decode cc pc = .ok (.newarray .byte, 2)) 
    (kk : ∀ (q : Nat) (H1 : Heap), va_P D classes (ws ++ [(q, .inl (cyB, N, .inl (fun _ => 0)))]) H1 → va_D A (ws ++ [(q, .inl (cyB, N, .inl (fun _ => 0)))]) → va_S A H0 H1 locs → W p l e R s m args below meth c H1 locs (cells + 1) (slots + N) Q (F0 m (pc + 2) ls (.ref q :: rest))) : W p l e R s m args below meth c H locs cells slots Q (F0 m pc ls (.int n :: rest)) := by
  obtain ⟨hx, hb, -, -, hown, hts, -, -⟩ := hC
  refine va_newa (atype := .byte) hx hb (hts _ hw) rfl hK hP hD hS hA (a0 := (N, .inl (fun _ => 0))) (fun _ => rfl) hn hN hbytes hcells hslots hdg (fun q cA H1 hK1 hP1 hD1 hS1 => ?_)
  have h1 := (hK1.2 4 (cA, .byte) rfl).2
  have h2 := (hK1.2 0 (cyB, .byte) rfl).2
  have h3 : cA = cyB := Option.some.inj (h1.symm.trans h2)
  subst h3
  exact kk q H1 hP1 hD1 hS1
theorem nwZ (hC : Ctx p s m meth c args cc nL retO own nm) (hw : Cond.arrayClass .boolean ∈ BIG) (hK : va_K D classes (TYS cyB cyI cyJ cyZ) s) (hP : va_P D classes ws H) (hD : va_D A ws) (hS : va_S A H0 H locs) (hA : ∀ q, H0.size ≤ q → A q) (hn : ¬ n < 0) (hN : n.toNatClampNeg = N) (hbytes : N * componentBytes .boolean ≤ 536870912) (hcells : cells + 1 ≤ R.cells) (hslots : slots + N ≤ R.slots) (hdg : decode cc pc = .ok (.newarray .boolean, 2)) 
    (kk : ∀ (q : Nat) (H1 : Heap), va_P D classes (ws ++ [(q, .inl (cyZ, N, .inl (fun _ => 0)))]) H1 → va_D A (ws ++ [(q, .inl (cyZ, N, .inl (fun _ => 0)))]) → va_S A H0 H1 locs → W p l e R s m args below meth c H1 locs (cells + 1) (slots + N) Q (F0 m (pc + 2) ls (.ref q :: rest))) : W p l e R s m args below meth c H locs cells slots Q (F0 m pc ls (.int n :: rest)) := by
  obtain ⟨hx, hb, -, -, hown, hts, -, -⟩ := hC
  refine va_newa (atype := .boolean) hx hb (hts _ hw) rfl hK hP hD hS hA (a0 := (N, .inl (fun _ => 0))) (fun _ => rfl) hn hN hbytes hcells hslots hdg (fun q cA H1 hK1 hP1 hD1 hS1 => ?_)
  have h1 := (hK1.2 4 (cA, .boolean) rfl).2
  have h2 := (hK1.2 3 (cyZ, .boolean) rfl).2
  have h3 : cA = cyZ := Option.some.inj (h1.symm.trans h2)
  subst h3
  exact kk q H1 hP1 hD1 hS1
theorem nwJ (hC : Ctx p s m meth c args cc nL retO own nm) (hw : Cond.arrayClass .long ∈ BIG) (hK : va_K D classes (TYS cyB cyI cyJ cyZ) s) (hP : va_P D classes ws H) (hD : va_D A ws) (hS : va_S A H0 H locs) (hA : ∀ q, H0.size ≤ q → A q) (hn : ¬ n < 0) (hN : n.toNatClampNeg = N) (hbytes : N * componentBytes .long ≤ 536870912) (hcells : cells + 1 ≤ R.cells) (hslots : slots + N ≤ R.slots) (hdg : decode cc pc = .ok (.newarray .long, 2)) 
    (kk : ∀ (q : Nat) (H1 : Heap), va_P D classes (ws ++ [(q, .inl (cyJ, N, .inr (.inl (fun _ => 0))))]) H1 → va_D A (ws ++ [(q, .inl (cyJ, N, .inr (.inl (fun _ => 0))))]) → va_S A H0 H1 locs → W p l e R s m args below meth c H1 locs (cells + 1) (slots + N) Q (F0 m (pc + 2) ls (.ref q :: rest))) : W p l e R s m args below meth c H locs cells slots Q (F0 m pc ls (.int n :: rest)) := by
  obtain ⟨hx, hb, -, -, hown, hts, -, -⟩ := hC
  refine va_newa (atype := .long) hx hb (hts _ hw) rfl hK hP hD hS hA (a0 := (N, .inr (.inl (fun _ => 0)))) (fun _ => rfl) hn hN hbytes hcells hslots hdg (fun q cA H1 hK1 hP1 hD1 hS1 => ?_)
  have h1 := (hK1.2 4 (cA, .long) rfl).2
  have h2 := (hK1.2 2 (cyJ, .long) rfl).2
  have h3 : cA = cyJ := Option.some.inj (h1.symm.trans h2)
  subst h3
  exact kk q H1 hP1 hD1 hS1
end NEWS
end
