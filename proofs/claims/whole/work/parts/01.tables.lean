-- ===== PART A: goes FIRST, ahead of the names: the tables' words, and 'selects' of the private methods out of them =====
/-- a private method of a class that the tables say can be made, by its rows of tables_1 -/
def lw_okq (q : MethodName × Nat) : Prop := (q.1.cls ≠ "java/lang/invoke/MethodHandle" ∧ q.1.cls ≠ "java/lang/invoke/VarHandle") ∧ Cond.instantiable q.1.cls q.2 ∈ tables_1 ∧ Cond.privateMethod q.1 ∈ tables_1 ∧ Cond.instanceMethod q.1 ∈ tables_1
theorem lw_p0 : lw_okq (⟨"MillBoats", "isKnownDay", "(I)Z"⟩, 9) := ⟨⟨by decide +kernel, by decide +kernel⟩, List.mem_of_getElem? (i := 27) (by decide +kernel), List.mem_of_getElem? (i := 678) (by decide +kernel), List.mem_of_getElem? (i := 679) (by decide +kernel)⟩
theorem lw_p1 : lw_okq (⟨"MillBoats", "addBytes", "(I)V"⟩, 9) := ⟨⟨by decide +kernel, by decide +kernel⟩, List.mem_of_getElem? (i := 27) (by decide +kernel), List.mem_of_getElem? (i := 702) (by decide +kernel), List.mem_of_getElem? (i := 703) (by decide +kernel)⟩
theorem lw_p2 : lw_okq (⟨"MillBoats$Reader", "split", "([II)V"⟩, 13) := ⟨⟨by decide +kernel, by decide +kernel⟩, List.mem_of_getElem? (i := 172) (by decide +kernel), List.mem_of_getElem? (i := 726) (by decide +kernel), List.mem_of_getElem? (i := 727) (by decide +kernel)⟩
theorem lw_p3 : lw_okq (⟨"MillBoats$Reader", "splitWord", "([III)I"⟩, 13) := ⟨⟨by decide +kernel, by decide +kernel⟩, List.mem_of_getElem? (i := 172) (by decide +kernel), List.mem_of_getElem? (i := 733) (by decide +kernel), List.mem_of_getElem? (i := 734) (by decide +kernel)⟩
theorem lw_p4 : lw_okq (⟨"MillBoats$Reader", "addToken", "(IIJ)V"⟩, 13) := ⟨⟨by decide +kernel, by decide +kernel⟩, List.mem_of_getElem? (i := 172) (by decide +kernel), List.mem_of_getElem? (i := 737) (by decide +kernel), List.mem_of_getElem? (i := 738) (by decide +kernel)⟩
theorem lw_p5 : lw_okq (⟨"MillBoats$Reader", "splitNumber", "([III)I"⟩, 13) := ⟨⟨by decide +kernel, by decide +kernel⟩, List.mem_of_getElem? (i := 172) (by decide +kernel), List.mem_of_getElem? (i := 744) (by decide +kernel), List.mem_of_getElem? (i := 745) (by decide +kernel)⟩
theorem lw_p6 : lw_okq (⟨"MillBoats$Reader", "rule", "()Z"⟩, 13) := ⟨⟨by decide +kernel, by decide +kernel⟩, List.mem_of_getElem? (i := 172) (by decide +kernel), List.mem_of_getElem? (i := 753) (by decide +kernel), List.mem_of_getElem? (i := 754) (by decide +kernel)⟩
theorem lw_p7 : lw_okq (⟨"MillBoats$Reader", "refuse", "(I)Z"⟩, 13) := ⟨⟨by decide +kernel, by decide +kernel⟩, List.mem_of_getElem? (i := 172) (by decide +kernel), List.mem_of_getElem? (i := 757) (by decide +kernel), List.mem_of_getElem? (i := 758) (by decide +kernel)⟩
theorem lw_p8 : lw_okq (⟨"MillBoats$Reader", "step", "()V"⟩, 13) := ⟨⟨by decide +kernel, by decide +kernel⟩, List.mem_of_getElem? (i := 172) (by decide +kernel), List.mem_of_getElem? (i := 761) (by decide +kernel), List.mem_of_getElem? (i := 762) (by decide +kernel)⟩
theorem lw_p9 : lw_okq (⟨"MillBoats$Reader", "letRule", "()Z"⟩, 13) := ⟨⟨by decide +kernel, by decide +kernel⟩, List.mem_of_getElem? (i := 172) (by decide +kernel), List.mem_of_getElem? (i := 765) (by decide +kernel), List.mem_of_getElem? (i := 766) (by decide +kernel)⟩
theorem lw_p10 : lw_okq (⟨"MillBoats$Reader", "valueHere", "()J"⟩, 13) := ⟨⟨by decide +kernel, by decide +kernel⟩, List.mem_of_getElem? (i := 172) (by decide +kernel), List.mem_of_getElem? (i := 769) (by decide +kernel), List.mem_of_getElem? (i := 770) (by decide +kernel)⟩
theorem lw_p11 : lw_okq (⟨"MillBoats$Reader", "known", "(J)I"⟩, 13) := ⟨⟨by decide +kernel, by decide +kernel⟩, List.mem_of_getElem? (i := 172) (by decide +kernel), List.mem_of_getElem? (i := 773) (by decide +kernel), List.mem_of_getElem? (i := 774) (by decide +kernel)⟩
theorem lw_p12 : lw_okq (⟨"MillBoats$Reader", "take", "(I)Z"⟩, 13) := ⟨⟨by decide +kernel, by decide +kernel⟩, List.mem_of_getElem? (i := 172) (by decide +kernel), List.mem_of_getElem? (i := 777) (by decide +kernel), List.mem_of_getElem? (i := 778) (by decide +kernel)⟩
theorem lw_p13 : lw_okq (⟨"MillBoats$Reader", "sum", "()Z"⟩, 13) := ⟨⟨by decide +kernel, by decide +kernel⟩, List.mem_of_getElem? (i := 172) (by decide +kernel), List.mem_of_getElem? (i := 781) (by decide +kernel), List.mem_of_getElem? (i := 782) (by decide +kernel)⟩
theorem lw_p14 : lw_okq (⟨"MillBoats$Reader", "product", "()Z"⟩, 13) := ⟨⟨by decide +kernel, by decide +kernel⟩, List.mem_of_getElem? (i := 172) (by decide +kernel), List.mem_of_getElem? (i := 785) (by decide +kernel), List.mem_of_getElem? (i := 786) (by decide +kernel)⟩
theorem lw_p15 : lw_okq (⟨"MillBoats$Reader", "factor", "()Z"⟩, 13) := ⟨⟨by decide +kernel, by decide +kernel⟩, List.mem_of_getElem? (i := 172) (by decide +kernel), List.mem_of_getElem? (i := 789) (by decide +kernel), List.mem_of_getElem? (i := 790) (by decide +kernel)⟩
def lw_privs_1 : List (MethodName × Nat) := [(⟨"MillBoats", "isKnownDay", "(I)Z"⟩, 9), (⟨"MillBoats", "addBytes", "(I)V"⟩, 9), (⟨"MillBoats$Reader", "split", "([II)V"⟩, 13), (⟨"MillBoats$Reader", "splitWord", "([III)I"⟩, 13), (⟨"MillBoats$Reader", "addToken", "(IIJ)V"⟩, 13), (⟨"MillBoats$Reader", "splitNumber", "([III)I"⟩, 13), (⟨"MillBoats$Reader", "rule", "()Z"⟩, 13), (⟨"MillBoats$Reader", "refuse", "(I)Z"⟩, 13), (⟨"MillBoats$Reader", "step", "()V"⟩, 13), (⟨"MillBoats$Reader", "letRule", "()Z"⟩, 13), (⟨"MillBoats$Reader", "valueHere", "()J"⟩, 13), (⟨"MillBoats$Reader", "known", "(J)I"⟩, 13), (⟨"MillBoats$Reader", "take", "(I)Z"⟩, 13), (⟨"MillBoats$Reader", "sum", "()Z"⟩, 13), (⟨"MillBoats$Reader", "product", "()Z"⟩, 13), (⟨"MillBoats$Reader", "factor", "()Z"⟩, 13)]
theorem lw_r1 : ∀ q ∈ lw_privs_1, lw_okq q := List.forall_mem_cons.mpr ⟨lw_p0, List.forall_mem_cons.mpr ⟨lw_p1, List.forall_mem_cons.mpr ⟨lw_p2, List.forall_mem_cons.mpr ⟨lw_p3, List.forall_mem_cons.mpr ⟨lw_p4, List.forall_mem_cons.mpr ⟨lw_p5, List.forall_mem_cons.mpr ⟨lw_p6, List.forall_mem_cons.mpr ⟨lw_p7, List.forall_mem_cons.mpr ⟨lw_p8, List.forall_mem_cons.mpr ⟨lw_p9, List.forall_mem_cons.mpr ⟨lw_p10, List.forall_mem_cons.mpr ⟨lw_p11, List.forall_mem_cons.mpr ⟨lw_p12, List.forall_mem_cons.mpr ⟨lw_p13, List.forall_mem_cons.mpr ⟨lw_p14, List.forall_mem_cons.mpr ⟨lw_p15, fun _ h => absurd h List.not_mem_nil⟩⟩⟩⟩⟩⟩⟩⟩⟩⟩⟩⟩⟩⟩⟩⟩
theorem lw_p16 : lw_okq (⟨"MillBoats$Reader", "bracketedSum", "()Z"⟩, 13) := ⟨⟨by decide +kernel, by decide +kernel⟩, List.mem_of_getElem? (i := 172) (by decide +kernel), List.mem_of_getElem? (i := 793) (by decide +kernel), List.mem_of_getElem? (i := 794) (by decide +kernel)⟩
theorem lw_p17 : lw_okq (⟨"MillBoats$Reader", "closeRule", "(III)Z"⟩, 13) := ⟨⟨by decide +kernel, by decide +kernel⟩, List.mem_of_getElem? (i := 172) (by decide +kernel), List.mem_of_getElem? (i := 801) (by decide +kernel), List.mem_of_getElem? (i := 802) (by decide +kernel)⟩
theorem lw_p18 : lw_okq (⟨"MillBoats$Reader", "tollRule", "()Z"⟩, 13) := ⟨⟨by decide +kernel, by decide +kernel⟩, List.mem_of_getElem? (i := 172) (by decide +kernel), List.mem_of_getElem? (i := 809) (by decide +kernel), List.mem_of_getElem? (i := 810) (by decide +kernel)⟩
theorem lw_p19 : lw_okq (⟨"MillBoats$Reader", "cond", "()Z"⟩, 13) := ⟨⟨by decide +kernel, by decide +kernel⟩, List.mem_of_getElem? (i := 172) (by decide +kernel), List.mem_of_getElem? (i := 813) (by decide +kernel), List.mem_of_getElem? (i := 814) (by decide +kernel)⟩
theorem lw_p20 : lw_okq (⟨"MillBoats$Reader", "both", "()Z"⟩, 13) := ⟨⟨by decide +kernel, by decide +kernel⟩, List.mem_of_getElem? (i := 172) (by decide +kernel), List.mem_of_getElem? (i := 817) (by decide +kernel), List.mem_of_getElem? (i := 818) (by decide +kernel)⟩
theorem lw_p21 : lw_okq (⟨"MillBoats$Reader", "part", "()Z"⟩, 13) := ⟨⟨by decide +kernel, by decide +kernel⟩, List.mem_of_getElem? (i := 172) (by decide +kernel), List.mem_of_getElem? (i := 821) (by decide +kernel), List.mem_of_getElem? (i := 822) (by decide +kernel)⟩
theorem lw_p22 : lw_okq (⟨"MillBoats$Reader", "bracketedCond", "()Z"⟩, 13) := ⟨⟨by decide +kernel, by decide +kernel⟩, List.mem_of_getElem? (i := 172) (by decide +kernel), List.mem_of_getElem? (i := 825) (by decide +kernel), List.mem_of_getElem? (i := 826) (by decide +kernel)⟩
theorem lw_p23 : lw_okq (⟨"MillBoats$Reader", "comparison", "()Z"⟩, 13) := ⟨⟨by decide +kernel, by decide +kernel⟩, List.mem_of_getElem? (i := 172) (by decide +kernel), List.mem_of_getElem? (i := 829) (by decide +kernel), List.mem_of_getElem? (i := 830) (by decide +kernel)⟩
theorem lw_p24 : lw_okq (⟨"MillBoats$Reader", "wayRule", "()Z"⟩, 13) := ⟨⟨by decide +kernel, by decide +kernel⟩, List.mem_of_getElem? (i := 172) (by decide +kernel), List.mem_of_getElem? (i := 833) (by decide +kernel), List.mem_of_getElem? (i := 834) (by decide +kernel)⟩
theorem lw_p25 : lw_okq (⟨"MillBoats$Law", "giveBoat", "(IIII)V"⟩, 8) := ⟨⟨by decide +kernel, by decide +kernel⟩, List.mem_of_getElem? (i := 140) (by decide +kernel), List.mem_of_getElem? (i := 861) (by decide +kernel), List.mem_of_getElem? (i := 862) (by decide +kernel)⟩
theorem lw_p26 : lw_okq (⟨"MillBoats$Law", "inForce", "(III)LMillBoats$Text;"⟩, 8) := ⟨⟨by decide +kernel, by decide +kernel⟩, List.mem_of_getElem? (i := 140) (by decide +kernel), List.mem_of_getElem? (i := 871) (by decide +kernel), List.mem_of_getElem? (i := 872) (by decide +kernel)⟩
theorem lw_p27 : lw_okq (⟨"MillBoats$Law", "wordKind", "(LMillBoats$Text;)I"⟩, 8) := ⟨⟨by decide +kernel, by decide +kernel⟩, List.mem_of_getElem? (i := 140) (by decide +kernel), List.mem_of_getElem? (i := 875) (by decide +kernel), List.mem_of_getElem? (i := 876) (by decide +kernel)⟩
theorem lw_p28 : lw_okq (⟨"MillBoats$Law", "lastHolding", "(LMillBoats$Text;II)I"⟩, 8) := ⟨⟨by decide +kernel, by decide +kernel⟩, List.mem_of_getElem? (i := 140) (by decide +kernel), List.mem_of_getElem? (i := 879) (by decide +kernel), List.mem_of_getElem? (i := 880) (by decide +kernel)⟩
theorem lw_p29 : lw_okq (⟨"MillBoats$Law", "workOut", "(LMillBoats$Text;I)I"⟩, 8) := ⟨⟨by decide +kernel, by decide +kernel⟩, List.mem_of_getElem? (i := 140) (by decide +kernel), List.mem_of_getElem? (i := 883) (by decide +kernel), List.mem_of_getElem? (i := 884) (by decide +kernel)⟩
theorem lw_p30 : lw_okq (⟨"MillBoats$Law", "named", "(I)I"⟩, 8) := ⟨⟨by decide +kernel, by decide +kernel⟩, List.mem_of_getElem? (i := 140) (by decide +kernel), List.mem_of_getElem? (i := 888) (by decide +kernel), List.mem_of_getElem? (i := 889) (by decide +kernel)⟩
theorem lw_p31 : lw_okq (⟨"MillBoats$Law", "giveStretch", "(III)V"⟩, 8) := ⟨⟨by decide +kernel, by decide +kernel⟩, List.mem_of_getElem? (i := 140) (by decide +kernel), List.mem_of_getElem? (i := 918) (by decide +kernel), List.mem_of_getElem? (i := 919) (by decide +kernel)⟩
def lw_privs_2 : List (MethodName × Nat) := [(⟨"MillBoats$Reader", "bracketedSum", "()Z"⟩, 13), (⟨"MillBoats$Reader", "closeRule", "(III)Z"⟩, 13), (⟨"MillBoats$Reader", "tollRule", "()Z"⟩, 13), (⟨"MillBoats$Reader", "cond", "()Z"⟩, 13), (⟨"MillBoats$Reader", "both", "()Z"⟩, 13), (⟨"MillBoats$Reader", "part", "()Z"⟩, 13), (⟨"MillBoats$Reader", "bracketedCond", "()Z"⟩, 13), (⟨"MillBoats$Reader", "comparison", "()Z"⟩, 13), (⟨"MillBoats$Reader", "wayRule", "()Z"⟩, 13), (⟨"MillBoats$Law", "giveBoat", "(IIII)V"⟩, 8), (⟨"MillBoats$Law", "inForce", "(III)LMillBoats$Text;"⟩, 8), (⟨"MillBoats$Law", "wordKind", "(LMillBoats$Text;)I"⟩, 8), (⟨"MillBoats$Law", "lastHolding", "(LMillBoats$Text;II)I"⟩, 8), (⟨"MillBoats$Law", "workOut", "(LMillBoats$Text;I)I"⟩, 8), (⟨"MillBoats$Law", "named", "(I)I"⟩, 8), (⟨"MillBoats$Law", "giveStretch", "(III)V"⟩, 8)]
theorem lw_r2 : ∀ q ∈ lw_privs_2, lw_okq q := List.forall_mem_cons.mpr ⟨lw_p16, List.forall_mem_cons.mpr ⟨lw_p17, List.forall_mem_cons.mpr ⟨lw_p18, List.forall_mem_cons.mpr ⟨lw_p19, List.forall_mem_cons.mpr ⟨lw_p20, List.forall_mem_cons.mpr ⟨lw_p21, List.forall_mem_cons.mpr ⟨lw_p22, List.forall_mem_cons.mpr ⟨lw_p23, List.forall_mem_cons.mpr ⟨lw_p24, List.forall_mem_cons.mpr ⟨lw_p25, List.forall_mem_cons.mpr ⟨lw_p26, List.forall_mem_cons.mpr ⟨lw_p27, List.forall_mem_cons.mpr ⟨lw_p28, List.forall_mem_cons.mpr ⟨lw_p29, List.forall_mem_cons.mpr ⟨lw_p30, List.forall_mem_cons.mpr ⟨lw_p31, fun _ h => absurd h List.not_mem_nil⟩⟩⟩⟩⟩⟩⟩⟩⟩⟩⟩⟩⟩⟩⟩⟩
theorem lw_p32 : lw_okq (⟨"MillBoats", "heightToday", "()I"⟩, 9) := ⟨⟨by decide +kernel, by decide +kernel⟩, List.mem_of_getElem? (i := 27) (by decide +kernel), List.mem_of_getElem? (i := 928) (by decide +kernel), List.mem_of_getElem? (i := 929) (by decide +kernel)⟩
theorem lw_p33 : lw_okq (⟨"MillBoats$Drift", "tell", "(IIII)V"⟩, 6) := ⟨⟨by decide +kernel, by decide +kernel⟩, List.mem_of_getElem? (i := 345) (by decide +kernel), List.mem_of_getElem? (i := 958) (by decide +kernel), List.mem_of_getElem? (i := 959) (by decide +kernel)⟩
theorem lw_p34 : lw_okq (⟨"MillBoats$Drift", "driftOn", "(III)V"⟩, 6) := ⟨⟨by decide +kernel, by decide +kernel⟩, List.mem_of_getElem? (i := 345) (by decide +kernel), List.mem_of_getElem? (i := 962) (by decide +kernel), List.mem_of_getElem? (i := 963) (by decide +kernel)⟩
theorem lw_p35 : lw_okq (⟨"MillBoats$Drift", "nextBerth", "(II)I"⟩, 6) := ⟨⟨by decide +kernel, by decide +kernel⟩, List.mem_of_getElem? (i := 345) (by decide +kernel), List.mem_of_getElem? (i := 968) (by decide +kernel), List.mem_of_getElem? (i := 969) (by decide +kernel)⟩
theorem lw_p36 : lw_okq (⟨"MillBoats$Drift", "makesWay", "(IIII)Z"⟩, 6) := ⟨⟨by decide +kernel, by decide +kernel⟩, List.mem_of_getElem? (i := 345) (by decide +kernel), List.mem_of_getElem? (i := 976) (by decide +kernel), List.mem_of_getElem? (i := 977) (by decide +kernel)⟩
theorem lw_p37 : lw_okq (⟨"MillBoats$Grist", "mayGrind", "(II)Z"⟩, 10) := ⟨⟨by decide +kernel, by decide +kernel⟩, List.mem_of_getElem? (i := 371) (by decide +kernel), List.mem_of_getElem? (i := 984) (by decide +kernel), List.mem_of_getElem? (i := 985) (by decide +kernel)⟩
theorem lw_p38 : lw_okq (⟨"MillBoats$Grist", "grindOrders", "(III)V"⟩, 10) := ⟨⟨by decide +kernel, by decide +kernel⟩, List.mem_of_getElem? (i := 371) (by decide +kernel), List.mem_of_getElem? (i := 991) (by decide +kernel), List.mem_of_getElem? (i := 992) (by decide +kernel)⟩
theorem lw_p39 : lw_okq (⟨"MillBoats$Planner", "chooseMills", "(I)V"⟩, 16) := ⟨⟨by decide +kernel, by decide +kernel⟩, List.mem_of_getElem? (i := 410) (by decide +kernel), List.mem_of_getElem? (i := 1033) (by decide +kernel), List.mem_of_getElem? (i := 1034) (by decide +kernel)⟩
theorem lw_p40 : lw_okq (⟨"MillBoats$Planner", "listChoices", "(IIIII)V"⟩, 16) := ⟨⟨by decide +kernel, by decide +kernel⟩, List.mem_of_getElem? (i := 410) (by decide +kernel), List.mem_of_getElem? (i := 1039) (by decide +kernel), List.mem_of_getElem? (i := 1040) (by decide +kernel)⟩
theorem lw_p41 : lw_okq (⟨"MillBoats$Planner", "sumTops", "()V"⟩, 16) := ⟨⟨by decide +kernel, by decide +kernel⟩, List.mem_of_getElem? (i := 410) (by decide +kernel), List.mem_of_getElem? (i := 1056) (by decide +kernel), List.mem_of_getElem? (i := 1057) (by decide +kernel)⟩
theorem lw_p42 : lw_okq (⟨"MillBoats$Planner", "tryMill", "(I)V"⟩, 16) := ⟨⟨by decide +kernel, by decide +kernel⟩, List.mem_of_getElem? (i := 410) (by decide +kernel), List.mem_of_getElem? (i := 1061) (by decide +kernel), List.mem_of_getElem? (i := 1062) (by decide +kernel)⟩
theorem lw_p43 : lw_okq (⟨"MillBoats$Planner", "weigh", "()V"⟩, 16) := ⟨⟨by decide +kernel, by decide +kernel⟩, List.mem_of_getElem? (i := 410) (by decide +kernel), List.mem_of_getElem? (i := 1065) (by decide +kernel), List.mem_of_getElem? (i := 1066) (by decide +kernel)⟩
theorem lw_p44 : lw_okq (⟨"MillBoats$Planner", "tryBerth", "(II)V"⟩, 16) := ⟨⟨by decide +kernel, by decide +kernel⟩, List.mem_of_getElem? (i := 410) (by decide +kernel), List.mem_of_getElem? (i := 1072) (by decide +kernel), List.mem_of_getElem? (i := 1073) (by decide +kernel)⟩
theorem lw_p45 : lw_okq (⟨"MillBoats$Mover", "arrange", "(I)Z"⟩, 10) := ⟨⟨by decide +kernel, by decide +kernel⟩, List.mem_of_getElem? (i := 469) (by decide +kernel), List.mem_of_getElem? (i := 1098) (by decide +kernel), List.mem_of_getElem? (i := 1099) (by decide +kernel)⟩
theorem lw_p46 : lw_okq (⟨"MillBoats$Mover", "arrangeWith", "(II)Z"⟩, 10) := ⟨⟨by decide +kernel, by decide +kernel⟩, List.mem_of_getElem? (i := 469) (by decide +kernel), List.mem_of_getElem? (i := 1102) (by decide +kernel), List.mem_of_getElem? (i := 1103) (by decide +kernel)⟩
theorem lw_p47 : lw_okq (⟨"MillBoats$Mover", "fewestSteps", "(II)I"⟩, 10) := ⟨⟨by decide +kernel, by decide +kernel⟩, List.mem_of_getElem? (i := 469) (by decide +kernel), List.mem_of_getElem? (i := 1106) (by decide +kernel), List.mem_of_getElem? (i := 1107) (by decide +kernel)⟩
def lw_privs_3 : List (MethodName × Nat) := [(⟨"MillBoats", "heightToday", "()I"⟩, 9), (⟨"MillBoats$Drift", "tell", "(IIII)V"⟩, 6), (⟨"MillBoats$Drift", "driftOn", "(III)V"⟩, 6), (⟨"MillBoats$Drift", "nextBerth", "(II)I"⟩, 6), (⟨"MillBoats$Drift", "makesWay", "(IIII)Z"⟩, 6), (⟨"MillBoats$Grist", "mayGrind", "(II)Z"⟩, 10), (⟨"MillBoats$Grist", "grindOrders", "(III)V"⟩, 10), (⟨"MillBoats$Planner", "chooseMills", "(I)V"⟩, 16), (⟨"MillBoats$Planner", "listChoices", "(IIIII)V"⟩, 16), (⟨"MillBoats$Planner", "sumTops", "()V"⟩, 16), (⟨"MillBoats$Planner", "tryMill", "(I)V"⟩, 16), (⟨"MillBoats$Planner", "weigh", "()V"⟩, 16), (⟨"MillBoats$Planner", "tryBerth", "(II)V"⟩, 16), (⟨"MillBoats$Mover", "arrange", "(I)Z"⟩, 10), (⟨"MillBoats$Mover", "arrangeWith", "(II)Z"⟩, 10), (⟨"MillBoats$Mover", "fewestSteps", "(II)I"⟩, 10)]
theorem lw_r3 : ∀ q ∈ lw_privs_3, lw_okq q := List.forall_mem_cons.mpr ⟨lw_p32, List.forall_mem_cons.mpr ⟨lw_p33, List.forall_mem_cons.mpr ⟨lw_p34, List.forall_mem_cons.mpr ⟨lw_p35, List.forall_mem_cons.mpr ⟨lw_p36, List.forall_mem_cons.mpr ⟨lw_p37, List.forall_mem_cons.mpr ⟨lw_p38, List.forall_mem_cons.mpr ⟨lw_p39, List.forall_mem_cons.mpr ⟨lw_p40, List.forall_mem_cons.mpr ⟨lw_p41, List.forall_mem_cons.mpr ⟨lw_p42, List.forall_mem_cons.mpr ⟨lw_p43, List.forall_mem_cons.mpr ⟨lw_p44, List.forall_mem_cons.mpr ⟨lw_p45, List.forall_mem_cons.mpr ⟨lw_p46, List.forall_mem_cons.mpr ⟨lw_p47, fun _ h => absurd h List.not_mem_nil⟩⟩⟩⟩⟩⟩⟩⟩⟩⟩⟩⟩⟩⟩⟩⟩
theorem lw_p48 : lw_okq (⟨"MillBoats$Mover", "begin", "(I)V"⟩, 10) := ⟨⟨by decide +kernel, by decide +kernel⟩, List.mem_of_getElem? (i := 469) (by decide +kernel), List.mem_of_getElem? (i := 1111) (by decide +kernel), List.mem_of_getElem? (i := 1112) (by decide +kernel)⟩
theorem lw_p49 : lw_okq (⟨"MillBoats$Mover", "reach", "(IIII)V"⟩, 10) := ⟨⟨by decide +kernel, by decide +kernel⟩, List.mem_of_getElem? (i := 469) (by decide +kernel), List.mem_of_getElem? (i := 1116) (by decide +kernel), List.mem_of_getElem? (i := 1117) (by decide +kernel)⟩
theorem lw_p50 : lw_okq (⟨"java/lang/Throwable", "fillInStackTrace", "(I)Ljava/lang/Throwable;"⟩, 6) := ⟨⟨by decide +kernel, by decide +kernel⟩, List.mem_of_getElem? (i := 1212) (by decide +kernel), List.mem_of_getElem? (i := 1210) (by decide +kernel), List.mem_of_getElem? (i := 1211) (by decide +kernel)⟩
theorem lw_p51 : lw_okq (⟨"MillBoatsModel", "valueOf", "(II)I"⟩, 79) := ⟨⟨by decide +kernel, by decide +kernel⟩, List.mem_of_getElem? (i := 1246) (by decide +kernel), List.mem_of_getElem? (i := 1509) (by decide +kernel), List.mem_of_getElem? (i := 1510) (by decide +kernel)⟩
theorem lw_p52 : lw_okq (⟨"MillBoatsModel", "isMill", "(I)Z"⟩, 79) := ⟨⟨by decide +kernel, by decide +kernel⟩, List.mem_of_getElem? (i := 1246) (by decide +kernel), List.mem_of_getElem? (i := 1521) (by decide +kernel), List.mem_of_getElem? (i := 1522) (by decide +kernel)⟩
theorem lw_p53 : lw_okq (⟨"MillBoatsModel", "millAt", "(I)I"⟩, 79) := ⟨⟨by decide +kernel, by decide +kernel⟩, List.mem_of_getElem? (i := 1246) (by decide +kernel), List.mem_of_getElem? (i := 1525) (by decide +kernel), List.mem_of_getElem? (i := 1526) (by decide +kernel)⟩
theorem lw_p54 : lw_okq (⟨"MillBoatsModel", "isAsked", "(II)Z"⟩, 79) := ⟨⟨by decide +kernel, by decide +kernel⟩, List.mem_of_getElem? (i := 1246) (by decide +kernel), List.mem_of_getElem? (i := 1537) (by decide +kernel), List.mem_of_getElem? (i := 1538) (by decide +kernel)⟩
theorem lw_p55 : lw_okq (⟨"MillBoatsModel", "flowOf", "(II)I"⟩, 79) := ⟨⟨by decide +kernel, by decide +kernel⟩, List.mem_of_getElem? (i := 1246) (by decide +kernel), List.mem_of_getElem? (i := 1541) (by decide +kernel), List.mem_of_getElem? (i := 1542) (by decide +kernel)⟩
theorem lw_p56 : lw_okq (⟨"MillBoatsModel", "powerOf", "(II)I"⟩, 79) := ⟨⟨by decide +kernel, by decide +kernel⟩, List.mem_of_getElem? (i := 1246) (by decide +kernel), List.mem_of_getElem? (i := 1549) (by decide +kernel), List.mem_of_getElem? (i := 1550) (by decide +kernel)⟩
theorem lw_p57 : lw_okq (⟨"MillBoatsModel", "floats", "(II)Z"⟩, 79) := ⟨⟨by decide +kernel, by decide +kernel⟩, List.mem_of_getElem? (i := 1246) (by decide +kernel), List.mem_of_getElem? (i := 1553) (by decide +kernel), List.mem_of_getElem? (i := 1554) (by decide +kernel)⟩
theorem lw_p58 : lw_okq (⟨"MillBoatsModel", "depth", "(II)I"⟩, 79) := ⟨⟨by decide +kernel, by decide +kernel⟩, List.mem_of_getElem? (i := 1246) (by decide +kernel), List.mem_of_getElem? (i := 1557) (by decide +kernel), List.mem_of_getElem? (i := 1558) (by decide +kernel)⟩
theorem lw_p59 : lw_okq (⟨"MillBoatsModel", "worn", "(I)I"⟩, 79) := ⟨⟨by decide +kernel, by decide +kernel⟩, List.mem_of_getElem? (i := 1246) (by decide +kernel), List.mem_of_getElem? (i := 1561) (by decide +kernel), List.mem_of_getElem? (i := 1562) (by decide +kernel)⟩
theorem lw_p60 : lw_okq (⟨"MillBoatsModel", "pullOf", "(IIZ)I"⟩, 79) := ⟨⟨by decide +kernel, by decide +kernel⟩, List.mem_of_getElem? (i := 1246) (by decide +kernel), List.mem_of_getElem? (i := 1569) (by decide +kernel), List.mem_of_getElem? (i := 1570) (by decide +kernel)⟩
theorem lw_p61 : lw_okq (⟨"MillBoatsModel", "isKnown", "(II)Z"⟩, 79) := ⟨⟨by decide +kernel, by decide +kernel⟩, List.mem_of_getElem? (i := 1246) (by decide +kernel), List.mem_of_getElem? (i := 1592) (by decide +kernel), List.mem_of_getElem? (i := 1593) (by decide +kernel)⟩
theorem lw_p62 : lw_okq (⟨"MillBoatsModel", "heightAt", "(II)I"⟩, 79) := ⟨⟨by decide +kernel, by decide +kernel⟩, List.mem_of_getElem? (i := 1246) (by decide +kernel), List.mem_of_getElem? (i := 1596) (by decide +kernel), List.mem_of_getElem? (i := 1597) (by decide +kernel)⟩
theorem lw_p63 : lw_okq (⟨"MillBoatsModel", "iceAt", "(II)Z"⟩, 79) := ⟨⟨by decide +kernel, by decide +kernel⟩, List.mem_of_getElem? (i := 1246) (by decide +kernel), List.mem_of_getElem? (i := 1604) (by decide +kernel), List.mem_of_getElem? (i := 1605) (by decide +kernel)⟩
def lw_privs_4 : List (MethodName × Nat) := [(⟨"MillBoats$Mover", "begin", "(I)V"⟩, 10), (⟨"MillBoats$Mover", "reach", "(IIII)V"⟩, 10), (⟨"java/lang/Throwable", "fillInStackTrace", "(I)Ljava/lang/Throwable;"⟩, 6), (⟨"MillBoatsModel", "valueOf", "(II)I"⟩, 79), (⟨"MillBoatsModel", "isMill", "(I)Z"⟩, 79), (⟨"MillBoatsModel", "millAt", "(I)I"⟩, 79), (⟨"MillBoatsModel", "isAsked", "(II)Z"⟩, 79), (⟨"MillBoatsModel", "flowOf", "(II)I"⟩, 79), (⟨"MillBoatsModel", "powerOf", "(II)I"⟩, 79), (⟨"MillBoatsModel", "floats", "(II)Z"⟩, 79), (⟨"MillBoatsModel", "depth", "(II)I"⟩, 79), (⟨"MillBoatsModel", "worn", "(I)I"⟩, 79), (⟨"MillBoatsModel", "pullOf", "(IIZ)I"⟩, 79), (⟨"MillBoatsModel", "isKnown", "(II)Z"⟩, 79), (⟨"MillBoatsModel", "heightAt", "(II)I"⟩, 79), (⟨"MillBoatsModel", "iceAt", "(II)Z"⟩, 79)]
theorem lw_r4 : ∀ q ∈ lw_privs_4, lw_okq q := List.forall_mem_cons.mpr ⟨lw_p48, List.forall_mem_cons.mpr ⟨lw_p49, List.forall_mem_cons.mpr ⟨lw_p50, List.forall_mem_cons.mpr ⟨lw_p51, List.forall_mem_cons.mpr ⟨lw_p52, List.forall_mem_cons.mpr ⟨lw_p53, List.forall_mem_cons.mpr ⟨lw_p54, List.forall_mem_cons.mpr ⟨lw_p55, List.forall_mem_cons.mpr ⟨lw_p56, List.forall_mem_cons.mpr ⟨lw_p57, List.forall_mem_cons.mpr ⟨lw_p58, List.forall_mem_cons.mpr ⟨lw_p59, List.forall_mem_cons.mpr ⟨lw_p60, List.forall_mem_cons.mpr ⟨lw_p61, List.forall_mem_cons.mpr ⟨lw_p62, List.forall_mem_cons.mpr ⟨lw_p63, fun _ h => absurd h List.not_mem_nil⟩⟩⟩⟩⟩⟩⟩⟩⟩⟩⟩⟩⟩⟩⟩⟩
theorem lw_p64 : lw_okq (⟨"MillBoatsModel", "next", "()V"⟩, 79) := ⟨⟨by decide +kernel, by decide +kernel⟩, List.mem_of_getElem? (i := 1246) (by decide +kernel), List.mem_of_getElem? (i := 1620) (by decide +kernel), List.mem_of_getElem? (i := 1621) (by decide +kernel)⟩
theorem lw_p65 : lw_okq (⟨"MillBoatsModel", "see", "(I)I"⟩, 79) := ⟨⟨by decide +kernel, by decide +kernel⟩, List.mem_of_getElem? (i := 1246) (by decide +kernel), List.mem_of_getElem? (i := 1627) (by decide +kernel), List.mem_of_getElem? (i := 1628) (by decide +kernel)⟩
theorem lw_p66 : lw_okq (⟨"MillBoatsModel", "isWell", "()Z"⟩, 79) := ⟨⟨by decide +kernel, by decide +kernel⟩, List.mem_of_getElem? (i := 1246) (by decide +kernel), List.mem_of_getElem? (i := 1634) (by decide +kernel), List.mem_of_getElem? (i := 1635) (by decide +kernel)⟩
theorem lw_p67 : lw_okq (⟨"MillBoatsModel", "readRule", "()V"⟩, 79) := ⟨⟨by decide +kernel, by decide +kernel⟩, List.mem_of_getElem? (i := 1246) (by decide +kernel), List.mem_of_getElem? (i := 1638) (by decide +kernel), List.mem_of_getElem? (i := 1639) (by decide +kernel)⟩
theorem lw_p68 : lw_okq (⟨"MillBoatsModel", "isWord", "(Ljava/lang/String;)Z"⟩, 79) := ⟨⟨by decide +kernel, by decide +kernel⟩, List.mem_of_getElem? (i := 1246) (by decide +kernel), List.mem_of_getElem? (i := 1643) (by decide +kernel), List.mem_of_getElem? (i := 1644) (by decide +kernel)⟩
theorem lw_p69 : lw_okq (⟨"MillBoatsModel", "fails", "(I)V"⟩, 79) := ⟨⟨by decide +kernel, by decide +kernel⟩, List.mem_of_getElem? (i := 1246) (by decide +kernel), List.mem_of_getElem? (i := 1653) (by decide +kernel), List.mem_of_getElem? (i := 1654) (by decide +kernel)⟩
theorem lw_p70 : lw_okq (⟨"MillBoatsModel", "readLet", "()V"⟩, 79) := ⟨⟨by decide +kernel, by decide +kernel⟩, List.mem_of_getElem? (i := 1246) (by decide +kernel), List.mem_of_getElem? (i := 1657) (by decide +kernel), List.mem_of_getElem? (i := 1658) (by decide +kernel)⟩
theorem lw_p71 : lw_okq (⟨"MillBoatsModel", "isBarredWord", "()Z"⟩, 79) := ⟨⟨by decide +kernel, by decide +kernel⟩, List.mem_of_getElem? (i := 1246) (by decide +kernel), List.mem_of_getElem? (i := 1661) (by decide +kernel), List.mem_of_getElem? (i := 1662) (by decide +kernel)⟩
theorem lw_p72 : lw_okq (⟨"MillBoatsModel", "name", "()I"⟩, 79) := ⟨⟨by decide +kernel, by decide +kernel⟩, List.mem_of_getElem? (i := 1246) (by decide +kernel), List.mem_of_getElem? (i := 1670) (by decide +kernel), List.mem_of_getElem? (i := 1671) (by decide +kernel)⟩
theorem lw_p73 : lw_okq (⟨"MillBoatsModel", "wantSign", "(I)V"⟩, 79) := ⟨⟨by decide +kernel, by decide +kernel⟩, List.mem_of_getElem? (i := 1246) (by decide +kernel), List.mem_of_getElem? (i := 1683) (by decide +kernel), List.mem_of_getElem? (i := 1684) (by decide +kernel)⟩
theorem lw_p74 : lw_okq (⟨"MillBoatsModel", "isSign", "(I)Z"⟩, 79) := ⟨⟨by decide +kernel, by decide +kernel⟩, List.mem_of_getElem? (i := 1246) (by decide +kernel), List.mem_of_getElem? (i := 1687) (by decide +kernel), List.mem_of_getElem? (i := 1688) (by decide +kernel)⟩
theorem lw_p75 : lw_okq (⟨"MillBoatsModel", "sum", "()V"⟩, 79) := ⟨⟨by decide +kernel, by decide +kernel⟩, List.mem_of_getElem? (i := 1246) (by decide +kernel), List.mem_of_getElem? (i := 1691) (by decide +kernel), List.mem_of_getElem? (i := 1692) (by decide +kernel)⟩
theorem lw_p76 : lw_okq (⟨"MillBoatsModel", "product", "()V"⟩, 79) := ⟨⟨by decide +kernel, by decide +kernel⟩, List.mem_of_getElem? (i := 1246) (by decide +kernel), List.mem_of_getElem? (i := 1695) (by decide +kernel), List.mem_of_getElem? (i := 1696) (by decide +kernel)⟩
theorem lw_p77 : lw_okq (⟨"MillBoatsModel", "factor", "()V"⟩, 79) := ⟨⟨by decide +kernel, by decide +kernel⟩, List.mem_of_getElem? (i := 1246) (by decide +kernel), List.mem_of_getElem? (i := 1699) (by decide +kernel), List.mem_of_getElem? (i := 1700) (by decide +kernel)⟩
theorem lw_p78 : lw_okq (⟨"MillBoatsModel", "emits", "(I)V"⟩, 79) := ⟨⟨by decide +kernel, by decide +kernel⟩, List.mem_of_getElem? (i := 1246) (by decide +kernel), List.mem_of_getElem? (i := 1703) (by decide +kernel), List.mem_of_getElem? (i := 1704) (by decide +kernel)⟩
theorem lw_p79 : lw_okq (⟨"MillBoatsModel", "opens", "()V"⟩, 79) := ⟨⟨by decide +kernel, by decide +kernel⟩, List.mem_of_getElem? (i := 1246) (by decide +kernel), List.mem_of_getElem? (i := 1707) (by decide +kernel), List.mem_of_getElem? (i := 1708) (by decide +kernel)⟩
def lw_privs_5 : List (MethodName × Nat) := [(⟨"MillBoatsModel", "next", "()V"⟩, 79), (⟨"MillBoatsModel", "see", "(I)I"⟩, 79), (⟨"MillBoatsModel", "isWell", "()Z"⟩, 79), (⟨"MillBoatsModel", "readRule", "()V"⟩, 79), (⟨"MillBoatsModel", "isWord", "(Ljava/lang/String;)Z"⟩, 79), (⟨"MillBoatsModel", "fails", "(I)V"⟩, 79), (⟨"MillBoatsModel", "readLet", "()V"⟩, 79), (⟨"MillBoatsModel", "isBarredWord", "()Z"⟩, 79), (⟨"MillBoatsModel", "name", "()I"⟩, 79), (⟨"MillBoatsModel", "wantSign", "(I)V"⟩, 79), (⟨"MillBoatsModel", "isSign", "(I)Z"⟩, 79), (⟨"MillBoatsModel", "sum", "()V"⟩, 79), (⟨"MillBoatsModel", "product", "()V"⟩, 79), (⟨"MillBoatsModel", "factor", "()V"⟩, 79), (⟨"MillBoatsModel", "emits", "(I)V"⟩, 79), (⟨"MillBoatsModel", "opens", "()V"⟩, 79)]
theorem lw_r5 : ∀ q ∈ lw_privs_5, lw_okq q := List.forall_mem_cons.mpr ⟨lw_p64, List.forall_mem_cons.mpr ⟨lw_p65, List.forall_mem_cons.mpr ⟨lw_p66, List.forall_mem_cons.mpr ⟨lw_p67, List.forall_mem_cons.mpr ⟨lw_p68, List.forall_mem_cons.mpr ⟨lw_p69, List.forall_mem_cons.mpr ⟨lw_p70, List.forall_mem_cons.mpr ⟨lw_p71, List.forall_mem_cons.mpr ⟨lw_p72, List.forall_mem_cons.mpr ⟨lw_p73, List.forall_mem_cons.mpr ⟨lw_p74, List.forall_mem_cons.mpr ⟨lw_p75, List.forall_mem_cons.mpr ⟨lw_p76, List.forall_mem_cons.mpr ⟨lw_p77, List.forall_mem_cons.mpr ⟨lw_p78, List.forall_mem_cons.mpr ⟨lw_p79, fun _ h => absurd h List.not_mem_nil⟩⟩⟩⟩⟩⟩⟩⟩⟩⟩⟩⟩⟩⟩⟩⟩
theorem lw_p80 : lw_okq (⟨"MillBoatsModel", "readToll", "(I)V"⟩, 79) := ⟨⟨by decide +kernel, by decide +kernel⟩, List.mem_of_getElem? (i := 1246) (by decide +kernel), List.mem_of_getElem? (i := 1711) (by decide +kernel), List.mem_of_getElem? (i := 1712) (by decide +kernel)⟩
theorem lw_p81 : lw_okq (⟨"MillBoatsModel", "number", "()I"⟩, 79) := ⟨⟨by decide +kernel, by decide +kernel⟩, List.mem_of_getElem? (i := 1246) (by decide +kernel), List.mem_of_getElem? (i := 1715) (by decide +kernel), List.mem_of_getElem? (i := 1716) (by decide +kernel)⟩
theorem lw_p82 : lw_okq (⟨"MillBoatsModel", "wantWord", "(Ljava/lang/String;)V"⟩, 79) := ⟨⟨by decide +kernel, by decide +kernel⟩, List.mem_of_getElem? (i := 1246) (by decide +kernel), List.mem_of_getElem? (i := 1719) (by decide +kernel), List.mem_of_getElem? (i := 1720) (by decide +kernel)⟩
theorem lw_p83 : lw_okq (⟨"MillBoatsModel", "readWay", "(I)V"⟩, 79) := ⟨⟨by decide +kernel, by decide +kernel⟩, List.mem_of_getElem? (i := 1246) (by decide +kernel), List.mem_of_getElem? (i := 1723) (by decide +kernel), List.mem_of_getElem? (i := 1724) (by decide +kernel)⟩
theorem lw_p84 : lw_okq (⟨"MillBoatsModel", "cond", "()V"⟩, 79) := ⟨⟨by decide +kernel, by decide +kernel⟩, List.mem_of_getElem? (i := 1246) (by decide +kernel), List.mem_of_getElem? (i := 1727) (by decide +kernel), List.mem_of_getElem? (i := 1728) (by decide +kernel)⟩
theorem lw_p85 : lw_okq (⟨"MillBoatsModel", "both", "()V"⟩, 79) := ⟨⟨by decide +kernel, by decide +kernel⟩, List.mem_of_getElem? (i := 1246) (by decide +kernel), List.mem_of_getElem? (i := 1731) (by decide +kernel), List.mem_of_getElem? (i := 1732) (by decide +kernel)⟩
theorem lw_p86 : lw_okq (⟨"MillBoatsModel", "part", "()V"⟩, 79) := ⟨⟨by decide +kernel, by decide +kernel⟩, List.mem_of_getElem? (i := 1246) (by decide +kernel), List.mem_of_getElem? (i := 1735) (by decide +kernel), List.mem_of_getElem? (i := 1736) (by decide +kernel)⟩
theorem lw_p87 : lw_okq (⟨"MillBoatsModel", "compares", "()V"⟩, 79) := ⟨⟨by decide +kernel, by decide +kernel⟩, List.mem_of_getElem? (i := 1246) (by decide +kernel), List.mem_of_getElem? (i := 1739) (by decide +kernel), List.mem_of_getElem? (i := 1740) (by decide +kernel)⟩
theorem lw_p88 : lw_okq (⟨"MillBoatsModel", "copyText", "(I)V"⟩, 79) := ⟨⟨by decide +kernel, by decide +kernel⟩, List.mem_of_getElem? (i := 1246) (by decide +kernel), List.mem_of_getElem? (i := 1743) (by decide +kernel), List.mem_of_getElem? (i := 1744) (by decide +kernel)⟩
theorem lw_p89 : lw_okq (⟨"MillBoatsModel", "barredBy", "(IIII)I"⟩, 79) := ⟨⟨by decide +kernel, by decide +kernel⟩, List.mem_of_getElem? (i := 1246) (by decide +kernel), List.mem_of_getElem? (i := 1755) (by decide +kernel), List.mem_of_getElem? (i := 1756) (by decide +kernel)⟩
theorem lw_p90 : lw_okq (⟨"MillBoatsModel", "saysOf", "(IIIII)I"⟩, 79) := ⟨⟨by decide +kernel, by decide +kernel⟩, List.mem_of_getElem? (i := 1246) (by decide +kernel), List.mem_of_getElem? (i := 1762) (by decide +kernel), List.mem_of_getElem? (i := 1763) (by decide +kernel)⟩
theorem lw_p91 : lw_okq (⟨"MillBoatsModel", "wordOf", "(IIIII)I"⟩, 79) := ⟨⟨by decide +kernel, by decide +kernel⟩, List.mem_of_getElem? (i := 1246) (by decide +kernel), List.mem_of_getElem? (i := 1766) (by decide +kernel), List.mem_of_getElem? (i := 1767) (by decide +kernel)⟩
theorem lw_p92 : lw_okq (⟨"MillBoatsModel", "names", "(IIIII)V"⟩, 79) := ⟨⟨by decide +kernel, by decide +kernel⟩, List.mem_of_getElem? (i := 1246) (by decide +kernel), List.mem_of_getElem? (i := 1770) (by decide +kernel), List.mem_of_getElem? (i := 1771) (by decide +kernel)⟩
theorem lw_p93 : lw_okq (⟨"MillBoatsModel", "textOf", "(III)I"⟩, 79) := ⟨⟨by decide +kernel, by decide +kernel⟩, List.mem_of_getElem? (i := 1246) (by decide +kernel), List.mem_of_getElem? (i := 1774) (by decide +kernel), List.mem_of_getElem? (i := 1775) (by decide +kernel)⟩
theorem lw_p94 : lw_okq (⟨"MillBoatsModel", "last", "(III)I"⟩, 79) := ⟨⟨by decide +kernel, by decide +kernel⟩, List.mem_of_getElem? (i := 1246) (by decide +kernel), List.mem_of_getElem? (i := 1778) (by decide +kernel), List.mem_of_getElem? (i := 1779) (by decide +kernel)⟩
theorem lw_p95 : lw_okq (⟨"MillBoatsModel", "works", "(II)I"⟩, 79) := ⟨⟨by decide +kernel, by decide +kernel⟩, List.mem_of_getElem? (i := 1246) (by decide +kernel), List.mem_of_getElem? (i := 1782) (by decide +kernel), List.mem_of_getElem? (i := 1783) (by decide +kernel)⟩
def lw_privs_6 : List (MethodName × Nat) := [(⟨"MillBoatsModel", "readToll", "(I)V"⟩, 79), (⟨"MillBoatsModel", "number", "()I"⟩, 79), (⟨"MillBoatsModel", "wantWord", "(Ljava/lang/String;)V"⟩, 79), (⟨"MillBoatsModel", "readWay", "(I)V"⟩, 79), (⟨"MillBoatsModel", "cond", "()V"⟩, 79), (⟨"MillBoatsModel", "both", "()V"⟩, 79), (⟨"MillBoatsModel", "part", "()V"⟩, 79), (⟨"MillBoatsModel", "compares", "()V"⟩, 79), (⟨"MillBoatsModel", "copyText", "(I)V"⟩, 79), (⟨"MillBoatsModel", "barredBy", "(IIII)I"⟩, 79), (⟨"MillBoatsModel", "saysOf", "(IIIII)I"⟩, 79), (⟨"MillBoatsModel", "wordOf", "(IIIII)I"⟩, 79), (⟨"MillBoatsModel", "names", "(IIIII)V"⟩, 79), (⟨"MillBoatsModel", "textOf", "(III)I"⟩, 79), (⟨"MillBoatsModel", "last", "(III)I"⟩, 79), (⟨"MillBoatsModel", "works", "(II)I"⟩, 79)]
theorem lw_r6 : ∀ q ∈ lw_privs_6, lw_okq q := List.forall_mem_cons.mpr ⟨lw_p80, List.forall_mem_cons.mpr ⟨lw_p81, List.forall_mem_cons.mpr ⟨lw_p82, List.forall_mem_cons.mpr ⟨lw_p83, List.forall_mem_cons.mpr ⟨lw_p84, List.forall_mem_cons.mpr ⟨lw_p85, List.forall_mem_cons.mpr ⟨lw_p86, List.forall_mem_cons.mpr ⟨lw_p87, List.forall_mem_cons.mpr ⟨lw_p88, List.forall_mem_cons.mpr ⟨lw_p89, List.forall_mem_cons.mpr ⟨lw_p90, List.forall_mem_cons.mpr ⟨lw_p91, List.forall_mem_cons.mpr ⟨lw_p92, List.forall_mem_cons.mpr ⟨lw_p93, List.forall_mem_cons.mpr ⟨lw_p94, List.forall_mem_cons.mpr ⟨lw_p95, fun _ h => absurd h List.not_mem_nil⟩⟩⟩⟩⟩⟩⟩⟩⟩⟩⟩⟩⟩⟩⟩⟩
theorem lw_p96 : lw_okq (⟨"MillBoatsModel", "wayOf", "(III)I"⟩, 79) := ⟨⟨by decide +kernel, by decide +kernel⟩, List.mem_of_getElem? (i := 1246) (by decide +kernel), List.mem_of_getElem? (i := 1804) (by decide +kernel), List.mem_of_getElem? (i := 1805) (by decide +kernel)⟩
theorem lw_p97 : lw_okq (⟨"MillBoatsModel", "freeLanes", "(II)I"⟩, 79) := ⟨⟨by decide +kernel, by decide +kernel⟩, List.mem_of_getElem? (i := 1246) (by decide +kernel), List.mem_of_getElem? (i := 1812) (by decide +kernel), List.mem_of_getElem? (i := 1813) (by decide +kernel)⟩
theorem lw_p98 : lw_okq (⟨"MillBoatsModel", "chains", "()V"⟩, 79) := ⟨⟨by decide +kernel, by decide +kernel⟩, List.mem_of_getElem? (i := 1246) (by decide +kernel), List.mem_of_getElem? (i := 1832) (by decide +kernel), List.mem_of_getElem? (i := 1833) (by decide +kernel)⟩
theorem lw_p99 : lw_okq (⟨"MillBoatsModel", "tells", "(IIII)V"⟩, 79) := ⟨⟨by decide +kernel, by decide +kernel⟩, List.mem_of_getElem? (i := 1246) (by decide +kernel), List.mem_of_getElem? (i := 1836) (by decide +kernel), List.mem_of_getElem? (i := 1837) (by decide +kernel)⟩
theorem lw_p100 : lw_okq (⟨"MillBoatsModel", "drifts", "(II)V"⟩, 79) := ⟨⟨by decide +kernel, by decide +kernel⟩, List.mem_of_getElem? (i := 1246) (by decide +kernel), List.mem_of_getElem? (i := 1840) (by decide +kernel), List.mem_of_getElem? (i := 1841) (by decide +kernel)⟩
theorem lw_p101 : lw_okq (⟨"MillBoatsModel", "driftsTo", "(I)I"⟩, 79) := ⟨⟨by decide +kernel, by decide +kernel⟩, List.mem_of_getElem? (i := 1246) (by decide +kernel), List.mem_of_getElem? (i := 1844) (by decide +kernel), List.mem_of_getElem? (i := 1845) (by decide +kernel)⟩
theorem lw_p102 : lw_okq (⟨"MillBoatsModel", "isBarred", "(IIII)Z"⟩, 79) := ⟨⟨by decide +kernel, by decide +kernel⟩, List.mem_of_getElem? (i := 1246) (by decide +kernel), List.mem_of_getElem? (i := 1848) (by decide +kernel), List.mem_of_getElem? (i := 1849) (by decide +kernel)⟩
theorem lw_p103 : lw_okq (⟨"MillBoatsModel", "grinds", "(I)V"⟩, 79) := ⟨⟨by decide +kernel, by decide +kernel⟩, List.mem_of_getElem? (i := 1246) (by decide +kernel), List.mem_of_getElem? (i := 1852) (by decide +kernel), List.mem_of_getElem? (i := 1853) (by decide +kernel)⟩
theorem lw_p104 : lw_okq (⟨"MillBoatsModel", "tollOf", "(III)I"⟩, 79) := ⟨⟨by decide +kernel, by decide +kernel⟩, List.mem_of_getElem? (i := 1246) (by decide +kernel), List.mem_of_getElem? (i := 1857) (by decide +kernel), List.mem_of_getElem? (i := 1858) (by decide +kernel)⟩
theorem lw_p105 : lw_okq (⟨"MillBoatsModel", "arePlanned", "(I)Z"⟩, 79) := ⟨⟨by decide +kernel, by decide +kernel⟩, List.mem_of_getElem? (i := 1246) (by decide +kernel), List.mem_of_getElem? (i := 1865) (by decide +kernel), List.mem_of_getElem? (i := 1866) (by decide +kernel)⟩
theorem lw_p106 : lw_okq (⟨"MillBoatsModel", "isIn", "(I)Z"⟩, 79) := ⟨⟨by decide +kernel, by decide +kernel⟩, List.mem_of_getElem? (i := 1246) (by decide +kernel), List.mem_of_getElem? (i := 1869) (by decide +kernel), List.mem_of_getElem? (i := 1870) (by decide +kernel)⟩
theorem lw_p107 : lw_okq (⟨"MillBoatsModel", "tries", "(I)V"⟩, 79) := ⟨⟨by decide +kernel, by decide +kernel⟩, List.mem_of_getElem? (i := 1246) (by decide +kernel), List.mem_of_getElem? (i := 1873) (by decide +kernel), List.mem_of_getElem? (i := 1874) (by decide +kernel)⟩
theorem lw_p108 : lw_okq (⟨"MillBoatsModel", "weighs", "()I"⟩, 79) := ⟨⟨by decide +kernel, by decide +kernel⟩, List.mem_of_getElem? (i := 1246) (by decide +kernel), List.mem_of_getElem? (i := 1877) (by decide +kernel), List.mem_of_getElem? (i := 1878) (by decide +kernel)⟩
theorem lw_p109 : lw_okq (⟨"MillBoatsModel", "findMoves", "()I"⟩, 79) := ⟨⟨by decide +kernel, by decide +kernel⟩, List.mem_of_getElem? (i := 1246) (by decide +kernel), List.mem_of_getElem? (i := 1889) (by decide +kernel), List.mem_of_getElem? (i := 1890) (by decide +kernel)⟩
theorem lw_p110 : lw_okq (⟨"MillBoatsModel", "orders", "(II)Z"⟩, 79) := ⟨⟨by decide +kernel, by decide +kernel⟩, List.mem_of_getElem? (i := 1246) (by decide +kernel), List.mem_of_getElem? (i := 1893) (by decide +kernel), List.mem_of_getElem? (i := 1894) (by decide +kernel)⟩
theorem lw_p111 : lw_okq (⟨"MillBoatsModel", "stepsTo", "(III)I"⟩, 79) := ⟨⟨by decide +kernel, by decide +kernel⟩, List.mem_of_getElem? (i := 1246) (by decide +kernel), List.mem_of_getElem? (i := 1897) (by decide +kernel), List.mem_of_getElem? (i := 1898) (by decide +kernel)⟩
def lw_privs_7 : List (MethodName × Nat) := [(⟨"MillBoatsModel", "wayOf", "(III)I"⟩, 79), (⟨"MillBoatsModel", "freeLanes", "(II)I"⟩, 79), (⟨"MillBoatsModel", "chains", "()V"⟩, 79), (⟨"MillBoatsModel", "tells", "(IIII)V"⟩, 79), (⟨"MillBoatsModel", "drifts", "(II)V"⟩, 79), (⟨"MillBoatsModel", "driftsTo", "(I)I"⟩, 79), (⟨"MillBoatsModel", "isBarred", "(IIII)Z"⟩, 79), (⟨"MillBoatsModel", "grinds", "(I)V"⟩, 79), (⟨"MillBoatsModel", "tollOf", "(III)I"⟩, 79), (⟨"MillBoatsModel", "arePlanned", "(I)Z"⟩, 79), (⟨"MillBoatsModel", "isIn", "(I)Z"⟩, 79), (⟨"MillBoatsModel", "tries", "(I)V"⟩, 79), (⟨"MillBoatsModel", "weighs", "()I"⟩, 79), (⟨"MillBoatsModel", "findMoves", "()I"⟩, 79), (⟨"MillBoatsModel", "orders", "(II)Z"⟩, 79), (⟨"MillBoatsModel", "stepsTo", "(III)I"⟩, 79)]
theorem lw_r7 : ∀ q ∈ lw_privs_7, lw_okq q := List.forall_mem_cons.mpr ⟨lw_p96, List.forall_mem_cons.mpr ⟨lw_p97, List.forall_mem_cons.mpr ⟨lw_p98, List.forall_mem_cons.mpr ⟨lw_p99, List.forall_mem_cons.mpr ⟨lw_p100, List.forall_mem_cons.mpr ⟨lw_p101, List.forall_mem_cons.mpr ⟨lw_p102, List.forall_mem_cons.mpr ⟨lw_p103, List.forall_mem_cons.mpr ⟨lw_p104, List.forall_mem_cons.mpr ⟨lw_p105, List.forall_mem_cons.mpr ⟨lw_p106, List.forall_mem_cons.mpr ⟨lw_p107, List.forall_mem_cons.mpr ⟨lw_p108, List.forall_mem_cons.mpr ⟨lw_p109, List.forall_mem_cons.mpr ⟨lw_p110, List.forall_mem_cons.mpr ⟨lw_p111, fun _ h => absurd h List.not_mem_nil⟩⟩⟩⟩⟩⟩⟩⟩⟩⟩⟩⟩⟩⟩⟩⟩
theorem lw_p112 : lw_okq (⟨"MillBoatsModel", "isFree", "(III)Z"⟩, 79) := ⟨⟨by decide +kernel, by decide +kernel⟩, List.mem_of_getElem? (i := 1246) (by decide +kernel), List.mem_of_getElem? (i := 1904) (by decide +kernel), List.mem_of_getElem? (i := 1905) (by decide +kernel)⟩
theorem lw_p113 : lw_okq (⟨"MillBoatsModel", "sum", "([II)I"⟩, 79) := ⟨⟨by decide +kernel, by decide +kernel⟩, List.mem_of_getElem? (i := 1246) (by decide +kernel), List.mem_of_getElem? (i := 1928) (by decide +kernel), List.mem_of_getElem? (i := 1929) (by decide +kernel)⟩
theorem lw_p114 : lw_okq (⟨"MillBoatsModel", "many", "(Z)I"⟩, 79) := ⟨⟨by decide +kernel, by decide +kernel⟩, List.mem_of_getElem? (i := 1246) (by decide +kernel), List.mem_of_getElem? (i := 1932) (by decide +kernel), List.mem_of_getElem? (i := 1933) (by decide +kernel)⟩
def lw_privs_8 : List (MethodName × Nat) := [(⟨"MillBoatsModel", "isFree", "(III)Z"⟩, 79), (⟨"MillBoatsModel", "sum", "([II)I"⟩, 79), (⟨"MillBoatsModel", "many", "(Z)I"⟩, 79)]
theorem lw_r8 : ∀ q ∈ lw_privs_8, lw_okq q := List.forall_mem_cons.mpr ⟨lw_p112, List.forall_mem_cons.mpr ⟨lw_p113, List.forall_mem_cons.mpr ⟨lw_p114, fun _ h => absurd h List.not_mem_nil⟩⟩⟩
def lw_privs : List (MethodName × Nat) := lw_privs_1 ++ (lw_privs_2 ++ (lw_privs_3 ++ (lw_privs_4 ++ (lw_privs_5 ++ (lw_privs_6 ++ (lw_privs_7 ++ (lw_privs_8)))))))
def lw_tbl : List Cond := k2_sels lw_privs ++ tables_1
theorem lw_privs_ok : ∀ q ∈ lw_privs, lw_okq q := by
  show ∀ q ∈ lw_privs_1 ++ (lw_privs_2 ++ (lw_privs_3 ++ (lw_privs_4 ++ (lw_privs_5 ++ (lw_privs_6 ++ (lw_privs_7 ++ (lw_privs_8))))))), lw_okq q
  exact List.forall_mem_append.mpr ⟨lw_r1, List.forall_mem_append.mpr ⟨lw_r2, List.forall_mem_append.mpr ⟨lw_r3, List.forall_mem_append.mpr ⟨lw_r4, List.forall_mem_append.mpr ⟨lw_r5, List.forall_mem_append.mpr ⟨lw_r6, List.forall_mem_append.mpr ⟨lw_r7, lw_r8⟩⟩⟩⟩⟩⟩⟩
-- ===== end of PART A; then your names; then what follows =====
def RX0 : String := "MillBoats$Boat"
def TX0 : u_T := fun k => match k with
  | 0 => ("MillBoats$Boat", "draught", "I", false)
  | 1 => ("MillBoats$Boat", "wheel", "I", false)
  | 2 => ("MillBoats$Boat", "chain", "I", false)
  | 3 => ("MillBoats$Boat", "sinceDressed", "I", false)
  | 4 => ("MillBoats$Boat", "ground", "I", false)
  | 5 => ("MillBoats$Boat", "tolls", "I", false)
  | _ => ("MillBoats$Boat", "dressedOn", "I", false)
def tyX0 : Nat → FieldType := fun k => match k with
  | 0 => .int
  | 1 => .int
  | 2 => .int
  | 3 => .int
  | 4 => .int
  | 5 => .int
  | _ => .int
abbrev wsX00 : List Cond := u_ws RX0 TX0 7
theorem nmX0 : ∀ a, a < 7 → ∀ b, b < 7 → a ≠ b → (TX0 a).2.1 ≠ (TX0 b).2.1 := by decide +kernel
theorem tyX0_ok : ∀ k, k < 7 → parseFieldDescriptor (TX0 k).2.2.1 = some (tyX0 k) := by decide +kernel
def RX1 : String := "MillBoats$Book"
def TX1 : u_T := fun k => match k with
  | 0 => ("MillBoats$Book", "days", "[I", true)
  | 1 => ("MillBoats$Book", "toldOn", "[I", true)
  | 2 => ("MillBoats$Book", "values", "[I", true)
  | _ => ("MillBoats$Book", "size", "I", false)
def tyX1 : Nat → FieldType := fun k => match k with
  | 0 => .array .int
  | 1 => .array .int
  | 2 => .array .int
  | _ => .int
abbrev wsX10 : List Cond := u_ws RX1 TX1 4
theorem nmX1 : ∀ a, a < 4 → ∀ b, b < 4 → a ≠ b → (TX1 a).2.1 ≠ (TX1 b).2.1 := by decide +kernel
theorem tyX1_ok : ∀ k, k < 4 → parseFieldDescriptor (TX1 k).2.2.1 = some (tyX1 k) := by decide +kernel
def RX2 : String := "MillBoats$Drift"
def TX2 : u_T := fun k => match k with
  | 0 => ("MillBoats$Drift", "river", "LMillBoats$River;", true)
  | 1 => ("MillBoats$Drift", "events", "[I", true)
  | 2 => ("MillBoats$Drift", "size", "I", false)
  | 3 => ("MillBoats$Drift", "day", "I", false)
  | 4 => ("MillBoats$Drift", "height", "I", false)
  | _ => ("MillBoats$Drift", "ice", "Z", false)
def tyX2 : Nat → FieldType := fun k => match k with
  | 0 => .object "MillBoats$River"
  | 1 => .array .int
  | 2 => .int
  | 3 => .int
  | 4 => .int
  | _ => .boolean
abbrev wsX20 : List Cond := u_ws RX2 TX2 6
theorem nmX2 : ∀ a, a < 6 → ∀ b, b < 6 → a ≠ b → (TX2 a).2.1 ≠ (TX2 b).2.1 := by decide +kernel
theorem tyX2_ok : ∀ k, k < 6 → parseFieldDescriptor (TX2 k).2.2.1 = some (tyX2 k) := by decide +kernel
def RX3 : String := "MillBoats$Grist"
def TX3 : u_T := fun k => match k with
  | 0 => ("MillBoats$Grist", "river", "LMillBoats$River;", true)
  | 1 => ("MillBoats$Grist", "law", "LMillBoats$Law;", true)
  | 2 => ("MillBoats$Grist", "skiffs", "[I", true)
  | 3 => ("MillBoats$Grist", "rows", "[I", true)
  | 4 => ("MillBoats$Grist", "shores", "[I", true)
  | 5 => ("MillBoats$Grist", "sacks", "[I", true)
  | 6 => ("MillBoats$Grist", "left", "[I", true)
  | 7 => ("MillBoats$Grist", "tolls", "[I", true)
  | 8 => ("MillBoats$Grist", "lastDays", "[I", true)
  | _ => ("MillBoats$Grist", "size", "I", false)
def tyX3 : Nat → FieldType := fun k => match k with
  | 0 => .object "MillBoats$River"
  | 1 => .object "MillBoats$Law"
  | 2 => .array .int
  | 3 => .array .int
  | 4 => .array .int
  | 5 => .array .int
  | 6 => .array .int
  | 7 => .array .int
  | 8 => .array .int
  | _ => .int
abbrev wsX30 : List Cond := u_ws RX3 TX3 10
theorem nmX3 : ∀ a, a < 10 → ∀ b, b < 10 → a ≠ b → (TX3 a).2.1 ≠ (TX3 b).2.1 := by decide +kernel
theorem tyX3_ok : ∀ k, k < 10 → parseFieldDescriptor (TX3 k).2.2.1 = some (tyX3 k) := by decide +kernel
def RX4 : String := "MillBoats$Law"
def TX4 : u_T := fun k => match k with
  | 0 => ("MillBoats$Law", "river", "LMillBoats$River;", true)
  | 1 => ("MillBoats$Law", "heights", "LMillBoats$Book;", true)
  | 2 => ("MillBoats$Law", "ices", "LMillBoats$Book;", true)
  | 3 => ("MillBoats$Law", "books", "[LMillBoats$Book;", true)
  | 4 => ("MillBoats$Law", "texts", "[LMillBoats$Text;", true)
  | 5 => ("MillBoats$Law", "reader", "LMillBoats$Reader;", true)
  | 6 => ("MillBoats$Law", "given", "[I", true)
  | _ => ("MillBoats$Law", "stack", "[I", true)
def tyX4 : Nat → FieldType := fun k => match k with
  | 0 => .object "MillBoats$River"
  | 1 => .object "MillBoats$Book"
  | 2 => .object "MillBoats$Book"
  | 3 => .array (.object "MillBoats$Book")
  | 4 => .array (.object "MillBoats$Text")
  | 5 => .object "MillBoats$Reader"
  | 6 => .array .int
  | _ => .array .int
abbrev wsX40 : List Cond := u_ws RX4 TX4 8
theorem nmX4 : ∀ a, a < 8 → ∀ b, b < 8 → a ≠ b → (TX4 a).2.1 ≠ (TX4 b).2.1 := by decide +kernel
theorem tyX4_ok : ∀ k, k < 8 → parseFieldDescriptor (TX4 k).2.2.1 = some (tyX4 k) := by decide +kernel
def RX5 : String := "MillBoats$Mover"
def TX5 : u_T := fun k => match k with
  | 0 => ("MillBoats$Mover", "river", "LMillBoats$River;", true)
  | 1 => ("MillBoats$Mover", "planner", "LMillBoats$Planner;", true)
  | 2 => ("MillBoats$Mover", "movers", "[I", true)
  | 3 => ("MillBoats$Mover", "steps", "[I", true)
  | 4 => ("MillBoats$Mover", "trial", "[I", true)
  | 5 => ("MillBoats$Mover", "away", "[I", true)
  | 6 => ("MillBoats$Mover", "queue", "[I", true)
  | 7 => ("MillBoats$Mover", "queued", "I", false)
  | 8 => ("MillBoats$Mover", "height", "I", false)
  | _ => ("MillBoats$Mover", "found", "I", false)
def tyX5 : Nat → FieldType := fun k => match k with
  | 0 => .object "MillBoats$River"
  | 1 => .object "MillBoats$Planner"
  | 2 => .array .int
  | 3 => .array .int
  | 4 => .array .int
  | 5 => .array .int
  | 6 => .array .int
  | 7 => .int
  | 8 => .int
  | _ => .int
abbrev wsX50 : List Cond := u_ws RX5 TX5 10
theorem nmX5 : ∀ a, a < 10 → ∀ b, b < 10 → a ≠ b → (TX5 a).2.1 ≠ (TX5 b).2.1 := by decide +kernel
theorem tyX5_ok : ∀ k, k < 10 → parseFieldDescriptor (TX5 k).2.2.1 = some (tyX5 k) := by decide +kernel
def RX6 : String := "MillBoats$Planner"
def TX6 : u_T := fun k => match k with
  | 0 => ("MillBoats$Planner", "river", "LMillBoats$River;", true)
  | 1 => ("MillBoats$Planner", "law", "LMillBoats$Law;", true)
  | 2 => ("MillBoats$Planner", "berths", "[I", true)
  | 3 => ("MillBoats$Planner", "bits", "I", false)
  | 4 => ("MillBoats$Planner", "who", "[I", true)
  | 5 => ("MillBoats$Planner", "choices", "[[I", true)
  | 6 => ("MillBoats$Planner", "choiceSizes", "[I", true)
  | 7 => ("MillBoats$Planner", "choiceTops", "[[I", true)
  | 8 => ("MillBoats$Planner", "levelTops", "[I", true)
  | 9 => ("MillBoats$Planner", "ways", "[I", true)
  | 10 => ("MillBoats$Planner", "trial", "[I", true)
  | 11 => ("MillBoats$Planner", "best", "[I", true)
  | 12 => ("MillBoats$Planner", "wanted", "I", false)
  | 13 => ("MillBoats$Planner", "bestSum", "I", false)
  | 14 => ("MillBoats$Planner", "height", "I", false)
  | _ => ("MillBoats$Planner", "ice", "Z", false)
def tyX6 : Nat → FieldType := fun k => match k with
  | 0 => .object "MillBoats$River"
  | 1 => .object "MillBoats$Law"
  | 2 => .array .int
  | 3 => .int
  | 4 => .array .int
  | 5 => .array (.array .int)
  | 6 => .array .int
  | 7 => .array (.array .int)
  | 8 => .array .int
  | 9 => .array .int
  | 10 => .array .int
  | 11 => .array .int
  | 12 => .int
  | 13 => .int
  | 14 => .int
  | _ => .boolean
abbrev wsX60 : List Cond := u_ws RX6 TX6 16
theorem nmX6 : ∀ a, a < 16 → ∀ b, b < 16 → a ≠ b → (TX6 a).2.1 ≠ (TX6 b).2.1 := by decide +kernel
theorem tyX6_ok : ∀ k, k < 16 → parseFieldDescriptor (TX6 k).2.2.1 = some (tyX6 k) := by decide +kernel
def RX7 : String := "MillBoats$Reader"
def TX7 : u_T := fun k => match k with
  | 0 => ("MillBoats$Reader", "kinds", "[I", true)
  | 1 => ("MillBoats$Reader", "places", "[I", true)
  | 2 => ("MillBoats$Reader", "values", "[J", true)
  | 3 => ("MillBoats$Reader", "keywords", "[J", true)
  | 4 => ("MillBoats$Reader", "names", "[J", true)
  | 5 => ("MillBoats$Reader", "draft", "LMillBoats$Text;", true)
  | 6 => ("MillBoats$Reader", "tokens", "I", false)
  | 7 => ("MillBoats$Reader", "at", "I", false)
  | 8 => ("MillBoats$Reader", "kind", "I", false)
  | 9 => ("MillBoats$Reader", "lets", "I", false)
  | 10 => ("MillBoats$Reader", "open", "I", false)
  | 11 => ("MillBoats$Reader", "fault", "I", false)
  | _ => ("MillBoats$Reader", "faultPlace", "I", false)
def tyX7 : Nat → FieldType := fun k => match k with
  | 0 => .array .int
  | 1 => .array .int
  | 2 => .array .long
  | 3 => .array .long
  | 4 => .array .long
  | 5 => .object "MillBoats$Text"
  | 6 => .int
  | 7 => .int
  | 8 => .int
  | 9 => .int
  | 10 => .int
  | 11 => .int
  | _ => .int
abbrev wsX70 : List Cond := u_ws RX7 TX7 13
theorem nmX7 : ∀ a, a < 13 → ∀ b, b < 13 → a ≠ b → (TX7 a).2.1 ≠ (TX7 b).2.1 := by decide +kernel
theorem tyX7_ok : ∀ k, k < 13 → parseFieldDescriptor (TX7 k).2.2.1 = some (tyX7 k) := by decide +kernel
def RX8 : String := "MillBoats$River"
def TX8 : u_T := fun k => match k with
  | 0 => ("MillBoats$River", "beds", "[I", true)
  | 1 => ("MillBoats$River", "tables", "[LMillBoats$Table;", true)
  | 2 => ("MillBoats$River", "boats", "[LMillBoats$Boat;", true)
  | 3 => ("MillBoats$River", "lies", "[I", true)
  | 4 => ("MillBoats$River", "without", "[I", true)
  | _ => ("MillBoats$River", "size", "I", false)
def tyX8 : Nat → FieldType := fun k => match k with
  | 0 => .array .int
  | 1 => .array (.object "MillBoats$Table")
  | 2 => .array (.object "MillBoats$Boat")
  | 3 => .array .int
  | 4 => .array .int
  | _ => .int
abbrev wsX80 : List Cond := u_ws RX8 TX8 6
theorem nmX8 : ∀ a, a < 6 → ∀ b, b < 6 → a ≠ b → (TX8 a).2.1 ≠ (TX8 b).2.1 := by decide +kernel
theorem tyX8_ok : ∀ k, k < 6 → parseFieldDescriptor (TX8 k).2.2.1 = some (tyX8 k) := by decide +kernel
def RX9 : String := "MillBoats$Table"
def TX9 : u_T := fun k => match k with
  | 0 => ("MillBoats$Table", "xs", "[I", true)
  | 1 => ("MillBoats$Table", "ys", "[I", true)
  | _ => ("MillBoats$Table", "size", "I", false)
def tyX9 : Nat → FieldType := fun k => match k with
  | 0 => .array .int
  | 1 => .array .int
  | _ => .int
abbrev wsX90 : List Cond := u_ws RX9 TX9 3
theorem nmX9 : ∀ a, a < 3 → ∀ b, b < 3 → a ≠ b → (TX9 a).2.1 ≠ (TX9 b).2.1 := by decide +kernel
theorem tyX9_ok : ∀ k, k < 3 → parseFieldDescriptor (TX9 k).2.2.1 = some (tyX9 k) := by decide +kernel
def RX10 : String := "MillBoats$Text"
def TX10 : u_T := fun k => match k with
  | 0 => ("MillBoats$Text", "code", "[I", true)
  | 1 => ("MillBoats$Text", "kinds", "[I", true)
  | 2 => ("MillBoats$Text", "codeEnds", "[I", true)
  | 3 => ("MillBoats$Text", "firsts", "[I", true)
  | 4 => ("MillBoats$Text", "seconds", "[I", true)
  | 5 => ("MillBoats$Text", "codeSize", "I", false)
  | _ => ("MillBoats$Text", "size", "I", false)
def tyX10 : Nat → FieldType := fun k => match k with
  | 0 => .array .int
  | 1 => .array .int
  | 2 => .array .int
  | 3 => .array .int
  | 4 => .array .int
  | 5 => .int
  | _ => .int
abbrev wsX100 : List Cond := u_ws RX10 TX10 7
theorem nmX10 : ∀ a, a < 7 → ∀ b, b < 7 → a ≠ b → (TX10 a).2.1 ≠ (TX10 b).2.1 := by decide +kernel
theorem tyX10_ok : ∀ k, k < 7 → parseFieldDescriptor (TX10 k).2.2.1 = some (tyX10 k) := by decide +kernel
def RX11 : String := "MillBoats"
def TX11 : u_T := fun k => match k with
  | 0 => ("MillBoats", "river", "LMillBoats$River;", true)
  | 1 => ("MillBoats", "law", "LMillBoats$Law;", true)
  | 2 => ("MillBoats", "drift", "LMillBoats$Drift;", true)
  | 3 => ("MillBoats", "grist", "LMillBoats$Grist;", true)
  | 4 => ("MillBoats", "planner", "LMillBoats$Planner;", true)
  | 5 => ("MillBoats", "mover", "LMillBoats$Mover;", true)
  | 6 => ("MillBoats", "tape", "[I", true)
  | 7 => ("MillBoats", "tapeSize", "I", false)
  | _ => ("MillBoats", "today", "I", false)
def tyX11 : Nat → FieldType := fun k => match k with
  | 0 => .object "MillBoats$River"
  | 1 => .object "MillBoats$Law"
  | 2 => .object "MillBoats$Drift"
  | 3 => .object "MillBoats$Grist"
  | 4 => .object "MillBoats$Planner"
  | 5 => .object "MillBoats$Mover"
  | 6 => .array .int
  | 7 => .int
  | _ => .int
abbrev wsX110 : List Cond := u_ws RX11 TX11 9
theorem nmX11 : ∀ a, a < 9 → ∀ b, b < 9 → a ≠ b → (TX11 a).2.1 ≠ (TX11 b).2.1 := by decide +kernel
theorem tyX11_ok : ∀ k, k < 9 → parseFieldDescriptor (TX11 k).2.2.1 = some (tyX11 k) := by decide +kernel
def RX12 : String := "MillBoatsModel"
def TX12 : u_T := fun k => match k with
  | 0 => ("MillBoatsModel", "thrown", "I", false)
  | 1 => ("MillBoatsModel", "bed", "[I", true)
  | 2 => ("MillBoatsModel", "points", "[I", true)
  | 3 => ("MillBoatsModel", "pointX", "[I", true)
  | 4 => ("MillBoatsModel", "pointY", "[I", true)
  | 5 => ("MillBoatsModel", "mills", "I", false)
  | 6 => ("MillBoatsModel", "draught", "[I", true)
  | 7 => ("MillBoatsModel", "wheel", "[I", true)
  | 8 => ("MillBoatsModel", "chain", "[I", true)
  | 9 => ("MillBoatsModel", "lies", "[I", true)
  | 10 => ("MillBoatsModel", "since", "[I", true)
  | 11 => ("MillBoatsModel", "ground", "[I", true)
  | 12 => ("MillBoatsModel", "tolls", "[I", true)
  | 13 => ("MillBoatsModel", "dressed", "[I", true)
  | 14 => ("MillBoatsModel", "today", "I", false)
  | 15 => ("MillBoatsModel", "heights", "I", false)
  | 16 => ("MillBoatsModel", "heightDay", "[I", true)
  | 17 => ("MillBoatsModel", "heightV", "[I", true)
  | 18 => ("MillBoatsModel", "heightTold", "[I", true)
  | 19 => ("MillBoatsModel", "ices", "I", false)
  | 20 => ("MillBoatsModel", "iceDay", "[I", true)
  | 21 => ("MillBoatsModel", "iceV", "[Z", true)
  | 22 => ("MillBoatsModel", "iceTold", "[I", true)
  | 23 => ("MillBoatsModel", "signs", "[I", true)
  | 24 => ("MillBoatsModel", "signMany", "[I", true)
  | 25 => ("MillBoatsModel", "ruleMany", "[I", true)
  | 26 => ("MillBoatsModel", "ruleKind", "[I", true)
  | 27 => ("MillBoatsModel", "ruleA", "[I", true)
  | 28 => ("MillBoatsModel", "ruleB", "[I", true)
  | 29 => ("MillBoatsModel", "ruleBegin", "[I", true)
  | 30 => ("MillBoatsModel", "ruleEnd", "[I", true)
  | 31 => ("MillBoatsModel", "textFrom", "[I", true)
  | 32 => ("MillBoatsModel", "textTold", "[I", true)
  | 33 => ("MillBoatsModel", "texts", "[I", true)
  | 34 => ("MillBoatsModel", "tape", "[B", true)
  | 35 => ("MillBoatsModel", "taped", "I", false)
  | 36 => ("MillBoatsModel", "at", "I", false)
  | 37 => ("MillBoatsModel", "place", "I", false)
  | 38 => ("MillBoatsModel", "sort", "I", false)
  | 39 => ("MillBoatsModel", "value", "I", false)
  | 40 => ("MillBoatsModel", "fault", "I", false)
  | 41 => ("MillBoatsModel", "faultPlace", "I", false)
  | 42 => ("MillBoatsModel", "lastPlace", "I", false)
  | 43 => ("MillBoatsModel", "open", "I", false)
  | 44 => ("MillBoatsModel", "lets", "I", false)
  | 45 => ("MillBoatsModel", "letName", "[B", true)
  | 46 => ("MillBoatsModel", "letSize", "[I", true)
  | 47 => ("MillBoatsModel", "named", "[I", true)
  | 48 => ("MillBoatsModel", "heap", "[I", true)
  | 49 => ("MillBoatsModel", "events", "I", false)
  | 50 => ("MillBoatsModel", "event", "[I", true)
  | 51 => ("MillBoatsModel", "nowHeight", "I", false)
  | 52 => ("MillBoatsModel", "nowIce", "Z", false)
  | 53 => ("MillBoatsModel", "skiffs", "[I", true)
  | 54 => ("MillBoatsModel", "rows", "[I", true)
  | 55 => ("MillBoatsModel", "orders", "I", false)
  | 56 => ("MillBoatsModel", "orderShore", "[I", true)
  | 57 => ("MillBoatsModel", "orderSacks", "[I", true)
  | 58 => ("MillBoatsModel", "orderLeft", "[I", true)
  | 59 => ("MillBoatsModel", "orderToll", "[I", true)
  | 60 => ("MillBoatsModel", "orderDone", "[I", true)
  | 61 => ("MillBoatsModel", "hasPlan", "Z", false)
  | 62 => ("MillBoatsModel", "planned", "I", false)
  | 63 => ("MillBoatsModel", "planTo", "[I", true)
  | 64 => ("MillBoatsModel", "wasAt", "[I", true)
  | 65 => ("MillBoatsModel", "tried", "[I", true)
  | 66 => ("MillBoatsModel", "mayLie", "[Z", true)
  | 67 => ("MillBoatsModel", "ways", "[I", true)
  | 68 => ("MillBoatsModel", "planDay", "I", false)
  | 69 => ("MillBoatsModel", "planHeight", "I", false)
  | 70 => ("MillBoatsModel", "planIce", "Z", false)
  | 71 => ("MillBoatsModel", "planFrom", "I", false)
  | 72 => ("MillBoatsModel", "planUntil", "I", false)
  | 73 => ("MillBoatsModel", "bestSum", "I", false)
  | 74 => ("MillBoatsModel", "moveMill", "[I", true)
  | 75 => ("MillBoatsModel", "moveSteps", "[I", true)
  | 76 => ("MillBoatsModel", "moveMany", "I", false)
  | 77 => ("MillBoatsModel", "far", "[I", true)
  | _ => ("MillBoatsModel", "flood", "[I", true)
def tyX12 : Nat → FieldType := fun k => match k with
  | 0 => .int
  | 1 => .array .int
  | 2 => .array .int
  | 3 => .array .int
  | 4 => .array .int
  | 5 => .int
  | 6 => .array .int
  | 7 => .array .int
  | 8 => .array .int
  | 9 => .array .int
  | 10 => .array .int
  | 11 => .array .int
  | 12 => .array .int
  | 13 => .array .int
  | 14 => .int
  | 15 => .int
  | 16 => .array .int
  | 17 => .array .int
  | 18 => .array .int
  | 19 => .int
  | 20 => .array .int
  | 21 => .array .boolean
  | 22 => .array .int
  | 23 => .array .int
  | 24 => .array .int
  | 25 => .array .int
  | 26 => .array .int
  | 27 => .array .int
  | 28 => .array .int
  | 29 => .array .int
  | 30 => .array .int
  | 31 => .array .int
  | 32 => .array .int
  | 33 => .array .int
  | 34 => .array .byte
  | 35 => .int
  | 36 => .int
  | 37 => .int
  | 38 => .int
  | 39 => .int
  | 40 => .int
  | 41 => .int
  | 42 => .int
  | 43 => .int
  | 44 => .int
  | 45 => .array .byte
  | 46 => .array .int
  | 47 => .array .int
  | 48 => .array .int
  | 49 => .int
  | 50 => .array .int
  | 51 => .int
  | 52 => .boolean
  | 53 => .array .int
  | 54 => .array .int
  | 55 => .int
  | 56 => .array .int
  | 57 => .array .int
  | 58 => .array .int
  | 59 => .array .int
  | 60 => .array .int
  | 61 => .boolean
  | 62 => .int
  | 63 => .array .int
  | 64 => .array .int
  | 65 => .array .int
  | 66 => .array .boolean
  | 67 => .array .int
  | 68 => .int
  | 69 => .int
  | 70 => .boolean
  | 71 => .int
  | 72 => .int
  | 73 => .int
  | 74 => .array .int
  | 75 => .array .int
  | 76 => .int
  | 77 => .array .int
  | _ => .array .int
abbrev wsX120 : List Cond := u_ws RX12 TX12 79
theorem nmX12 : ∀ a, a < 79 → ∀ b, b < 79 → a ≠ b → (TX12 a).2.1 ≠ (TX12 b).2.1 := by decide +kernel
theorem tyX12_ok : ∀ k, k < 79 → parseFieldDescriptor (TX12 k).2.2.1 = some (tyX12 k) := by decide +kernel
def RL : String := "MillBoatsLaw"
abbrev vwCl : List vw_C := [(RX0, TX0, 7), (RX1, TX1, 4), (RX2, TX2, 6), (RX3, TX3, 10), (RX4, TX4, 8), (RX5, TX5, 10), (RX6, TX6, 16), (RX7, TX7, 13), (RX8, TX8, 6), (RX9, TX9, 3), (RX10, TX10, 7), (RX11, TX11, 9), (RX12, TX12, 79)]
