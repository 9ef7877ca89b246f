-- ===== PART A: goes FIRST, ahead of the names: the tables' words, and 'selects' of the private methods out of them =====
/-- a private method of a class that the tables say can be made, by its rows of tables_1 -/
def lw_okq (q : MethodName × Nat) : Prop := (q.1.cls ≠ "java/lang/invoke/MethodHandle" ∧ q.1.cls ≠ "java/lang/invoke/VarHandle") ∧ Cond.instantiable q.1.cls q.2 ∈ tables_1 ∧ Cond.privateMethod q.1 ∈ tables_1 ∧ Cond.instanceMethod q.1 ∈ tables_1
theorem lw_p0 : lw_okq (⟨"SchoolRides$Tape", "skipBlanks", "(I)I"⟩, 6) := ⟨⟨by decide +kernel, by decide +kernel⟩, List.mem_of_getElem? (i := 36) (by decide +kernel), List.mem_of_getElem? (i := 688) (by decide +kernel), List.mem_of_getElem? (i := 689) (by decide +kernel)⟩
theorem lw_p1 : lw_okq (⟨"SchoolRides$Tape", "byteAt", "(I)I"⟩, 6) := ⟨⟨by decide +kernel, by decide +kernel⟩, List.mem_of_getElem? (i := 36) (by decide +kernel), List.mem_of_getElem? (i := 692) (by decide +kernel), List.mem_of_getElem? (i := 693) (by decide +kernel)⟩
theorem lw_p2 : lw_okq (⟨"SchoolRides$Tape", "scanToken", "(II)I"⟩, 6) := ⟨⟨by decide +kernel, by decide +kernel⟩, List.mem_of_getElem? (i := 36) (by decide +kernel), List.mem_of_getElem? (i := 699) (by decide +kernel), List.mem_of_getElem? (i := 700) (by decide +kernel)⟩
theorem lw_p3 : lw_okq (⟨"SchoolRides$Tape", "scanWord", "(II)I"⟩, 6) := ⟨⟨by decide +kernel, by decide +kernel⟩, List.mem_of_getElem? (i := 36) (by decide +kernel), List.mem_of_getElem? (i := 706) (by decide +kernel), List.mem_of_getElem? (i := 707) (by decide +kernel)⟩
theorem lw_p4 : lw_okq (⟨"SchoolRides$Tape", "kindOfWord", "(J)I"⟩, 6) := ⟨⟨by decide +kernel, by decide +kernel⟩, List.mem_of_getElem? (i := 36) (by decide +kernel), List.mem_of_getElem? (i := 710) (by decide +kernel), List.mem_of_getElem? (i := 711) (by decide +kernel)⟩
theorem lw_p5 : lw_okq (⟨"SchoolRides$Tape", "scanInt", "(II)I"⟩, 6) := ⟨⟨by decide +kernel, by decide +kernel⟩, List.mem_of_getElem? (i := 36) (by decide +kernel), List.mem_of_getElem? (i := 717) (by decide +kernel), List.mem_of_getElem? (i := 718) (by decide +kernel)⟩
theorem lw_p6 : lw_okq (⟨"SchoolRides$Reader", "kindAhead", "()I"⟩, 15) := ⟨⟨by decide +kernel, by decide +kernel⟩, List.mem_of_getElem? (i := 30) (by decide +kernel), List.mem_of_getElem? (i := 726) (by decide +kernel), List.mem_of_getElem? (i := 727) (by decide +kernel)⟩
theorem lw_p7 : lw_okq (⟨"SchoolRides$Reader", "readTell", "(LSchoolRides$Text;)V"⟩, 15) := ⟨⟨by decide +kernel, by decide +kernel⟩, List.mem_of_getElem? (i := 30) (by decide +kernel), List.mem_of_getElem? (i := 730) (by decide +kernel), List.mem_of_getElem? (i := 731) (by decide +kernel)⟩
theorem lw_p8 : lw_okq (⟨"SchoolRides$Reader", "readPlace", "(LSchoolRides$Text;)V"⟩, 15) := ⟨⟨by decide +kernel, by decide +kernel⟩, List.mem_of_getElem? (i := 30) (by decide +kernel), List.mem_of_getElem? (i := 734) (by decide +kernel), List.mem_of_getElem? (i := 735) (by decide +kernel)⟩
theorem lw_p9 : lw_okq (⟨"SchoolRides$Reader", "needRoom", "(II)V"⟩, 15) := ⟨⟨by decide +kernel, by decide +kernel⟩, List.mem_of_getElem? (i := 30) (by decide +kernel), List.mem_of_getElem? (i := 738) (by decide +kernel), List.mem_of_getElem? (i := 739) (by decide +kernel)⟩
theorem lw_p10 : lw_okq (⟨"SchoolRides$Reader", "fail", "(I)V"⟩, 15) := ⟨⟨by decide +kernel, by decide +kernel⟩, List.mem_of_getElem? (i := 30) (by decide +kernel), List.mem_of_getElem? (i := 742) (by decide +kernel), List.mem_of_getElem? (i := 743) (by decide +kernel)⟩
theorem lw_p11 : lw_okq (⟨"SchoolRides$Reader", "take", "(I)V"⟩, 15) := ⟨⟨by decide +kernel, by decide +kernel⟩, List.mem_of_getElem? (i := 30) (by decide +kernel), List.mem_of_getElem? (i := 746) (by decide +kernel), List.mem_of_getElem? (i := 747) (by decide +kernel)⟩
theorem lw_p12 : lw_okq (⟨"SchoolRides$Reader", "tellName", "(II)V"⟩, 15) := ⟨⟨by decide +kernel, by decide +kernel⟩, List.mem_of_getElem? (i := 30) (by decide +kernel), List.mem_of_getElem? (i := 750) (by decide +kernel), List.mem_of_getElem? (i := 751) (by decide +kernel)⟩
theorem lw_p13 : lw_okq (⟨"SchoolRides$Reader", "indexOfName", "(I)I"⟩, 15) := ⟨⟨by decide +kernel, by decide +kernel⟩, List.mem_of_getElem? (i := 30) (by decide +kernel), List.mem_of_getElem? (i := 754) (by decide +kernel), List.mem_of_getElem? (i := 755) (by decide +kernel)⟩
theorem lw_p14 : lw_okq (⟨"SchoolRides$Reader", "failLate", "(II)V"⟩, 15) := ⟨⟨by decide +kernel, by decide +kernel⟩, List.mem_of_getElem? (i := 30) (by decide +kernel), List.mem_of_getElem? (i := 758) (by decide +kernel), List.mem_of_getElem? (i := 759) (by decide +kernel)⟩
theorem lw_p15 : lw_okq (⟨"SchoolRides$Reader", "readWay", "(LSchoolRides$Text;)V"⟩, 15) := ⟨⟨by decide +kernel, by decide +kernel⟩, List.mem_of_getElem? (i := 30) (by decide +kernel), List.mem_of_getElem? (i := 762) (by decide +kernel), List.mem_of_getElem? (i := 763) (by decide +kernel)⟩
def lw_privs_1 : List (MethodName × Nat) := [(⟨"SchoolRides$Tape", "skipBlanks", "(I)I"⟩, 6), (⟨"SchoolRides$Tape", "byteAt", "(I)I"⟩, 6), (⟨"SchoolRides$Tape", "scanToken", "(II)I"⟩, 6), (⟨"SchoolRides$Tape", "scanWord", "(II)I"⟩, 6), (⟨"SchoolRides$Tape", "kindOfWord", "(J)I"⟩, 6), (⟨"SchoolRides$Tape", "scanInt", "(II)I"⟩, 6), (⟨"SchoolRides$Reader", "kindAhead", "()I"⟩, 15), (⟨"SchoolRides$Reader", "readTell", "(LSchoolRides$Text;)V"⟩, 15), (⟨"SchoolRides$Reader", "readPlace", "(LSchoolRides$Text;)V"⟩, 15), (⟨"SchoolRides$Reader", "needRoom", "(II)V"⟩, 15), (⟨"SchoolRides$Reader", "fail", "(I)V"⟩, 15), (⟨"SchoolRides$Reader", "take", "(I)V"⟩, 15), (⟨"SchoolRides$Reader", "tellName", "(II)V"⟩, 15), (⟨"SchoolRides$Reader", "indexOfName", "(I)I"⟩, 15), (⟨"SchoolRides$Reader", "failLate", "(II)V"⟩, 15), (⟨"SchoolRides$Reader", "readWay", "(LSchoolRides$Text;)V"⟩, 15)]
theorem lw_r1 : ∀ q ∈ lw_privs_1, lw_okq q := List.forall_mem_cons.mpr ⟨lw_p0, List.forall_mem_cons.mpr ⟨lw_p1, List.forall_mem_cons.mpr ⟨lw_p2, List.forall_mem_cons.mpr ⟨lw_p3, List.forall_mem_cons.mpr ⟨lw_p4, List.forall_mem_cons.mpr ⟨lw_p5, List.forall_mem_cons.mpr ⟨lw_p6, List.forall_mem_cons.mpr ⟨lw_p7, List.forall_mem_cons.mpr ⟨lw_p8, List.forall_mem_cons.mpr ⟨lw_p9, List.forall_mem_cons.mpr ⟨lw_p10, List.forall_mem_cons.mpr ⟨lw_p11, List.forall_mem_cons.mpr ⟨lw_p12, List.forall_mem_cons.mpr ⟨lw_p13, List.forall_mem_cons.mpr ⟨lw_p14, List.forall_mem_cons.mpr ⟨lw_p15, fun _ h => absurd h List.not_mem_nil⟩⟩⟩⟩⟩⟩⟩⟩⟩⟩⟩⟩⟩⟩⟩⟩
theorem lw_p16 : lw_okq (⟨"SchoolRides$Reader", "placeNamed", "(I)I"⟩, 15) := ⟨⟨by decide +kernel, by decide +kernel⟩, List.mem_of_getElem? (i := 30) (by decide +kernel), List.mem_of_getElem? (i := 766) (by decide +kernel), List.mem_of_getElem? (i := 767) (by decide +kernel)⟩
theorem lw_p17 : lw_okq (⟨"SchoolRides$Reader", "wrongIf", "(ZI)V"⟩, 15) := ⟨⟨by decide +kernel, by decide +kernel⟩, List.mem_of_getElem? (i := 30) (by decide +kernel), List.mem_of_getElem? (i := 770) (by decide +kernel), List.mem_of_getElem? (i := 771) (by decide +kernel)⟩
theorem lw_p18 : lw_okq (⟨"SchoolRides$Reader", "intAt", "(I)I"⟩, 15) := ⟨⟨by decide +kernel, by decide +kernel⟩, List.mem_of_getElem? (i := 30) (by decide +kernel), List.mem_of_getElem? (i := 774) (by decide +kernel), List.mem_of_getElem? (i := 775) (by decide +kernel)⟩
theorem lw_p19 : lw_okq (⟨"SchoolRides$Reader", "readSchool", "(LSchoolRides$Text;)V"⟩, 15) := ⟨⟨by decide +kernel, by decide +kernel⟩, List.mem_of_getElem? (i := 30) (by decide +kernel), List.mem_of_getElem? (i := 782) (by decide +kernel), List.mem_of_getElem? (i := 783) (by decide +kernel)⟩
theorem lw_p20 : lw_okq (⟨"SchoolRides$Reader", "readStop", "(LSchoolRides$Text;)V"⟩, 15) := ⟨⟨by decide +kernel, by decide +kernel⟩, List.mem_of_getElem? (i := 30) (by decide +kernel), List.mem_of_getElem? (i := 790) (by decide +kernel), List.mem_of_getElem? (i := 791) (by decide +kernel)⟩
theorem lw_p21 : lw_okq (⟨"SchoolRides$Reader", "readRight", "(LSchoolRides$Text;)V"⟩, 15) := ⟨⟨by decide +kernel, by decide +kernel⟩, List.mem_of_getElem? (i := 30) (by decide +kernel), List.mem_of_getElem? (i := 798) (by decide +kernel), List.mem_of_getElem? (i := 799) (by decide +kernel)⟩
theorem lw_p22 : lw_okq (⟨"SchoolRides$Reader", "beginLiteral", "()V"⟩, 15) := ⟨⟨by decide +kernel, by decide +kernel⟩, List.mem_of_getElem? (i := 30) (by decide +kernel), List.mem_of_getElem? (i := 802) (by decide +kernel), List.mem_of_getElem? (i := 803) (by decide +kernel)⟩
theorem lw_p23 : lw_okq (⟨"SchoolRides$Reader", "readOperand", "(LSchoolRides$Text;)V"⟩, 15) := ⟨⟨by decide +kernel, by decide +kernel⟩, List.mem_of_getElem? (i := 30) (by decide +kernel), List.mem_of_getElem? (i := 806) (by decide +kernel), List.mem_of_getElem? (i := 807) (by decide +kernel)⟩
theorem lw_p24 : lw_okq (⟨"SchoolRides$Reader", "await", "(I)V"⟩, 15) := ⟨⟨by decide +kernel, by decide +kernel⟩, List.mem_of_getElem? (i := 30) (by decide +kernel), List.mem_of_getElem? (i := 810) (by decide +kernel), List.mem_of_getElem? (i := 811) (by decide +kernel)⟩
theorem lw_p25 : lw_okq (⟨"SchoolRides$Reader", "readOperator", "(LSchoolRides$Text;)Z"⟩, 15) := ⟨⟨by decide +kernel, by decide +kernel⟩, List.mem_of_getElem? (i := 30) (by decide +kernel), List.mem_of_getElem? (i := 818) (by decide +kernel), List.mem_of_getElem? (i := 819) (by decide +kernel)⟩
theorem lw_p26 : lw_okq (⟨"SchoolRides$Reader", "settle", "(LSchoolRides$Text;I)V"⟩, 15) := ⟨⟨by decide +kernel, by decide +kernel⟩, List.mem_of_getElem? (i := 30) (by decide +kernel), List.mem_of_getElem? (i := 822) (by decide +kernel), List.mem_of_getElem? (i := 823) (by decide +kernel)⟩
theorem lw_p27 : lw_okq (⟨"SchoolRides$Reader", "mayFollowOperand", "(I)Z"⟩, 15) := ⟨⟨by decide +kernel, by decide +kernel⟩, List.mem_of_getElem? (i := 30) (by decide +kernel), List.mem_of_getElem? (i := 829) (by decide +kernel), List.mem_of_getElem? (i := 830) (by decide +kernel)⟩
theorem lw_p28 : lw_okq (⟨"SchoolRides$Reader", "readRule", "(LSchoolRides$Text;I)V"⟩, 15) := ⟨⟨by decide +kernel, by decide +kernel⟩, List.mem_of_getElem? (i := 30) (by decide +kernel), List.mem_of_getElem? (i := 840) (by decide +kernel), List.mem_of_getElem? (i := 841) (by decide +kernel)⟩
theorem lw_p29 : lw_okq (⟨"SchoolRides$Reader", "readBus", "(LSchoolRides$Text;)V"⟩, 15) := ⟨⟨by decide +kernel, by decide +kernel⟩, List.mem_of_getElem? (i := 30) (by decide +kernel), List.mem_of_getElem? (i := 844) (by decide +kernel), List.mem_of_getElem? (i := 845) (by decide +kernel)⟩
theorem lw_p30 : lw_okq (⟨"SchoolRides", "inForce", "(I)I"⟩, 14) := ⟨⟨by decide +kernel, by decide +kernel⟩, List.mem_of_getElem? (i := 22) (by decide +kernel), List.mem_of_getElem? (i := 896) (by decide +kernel), List.mem_of_getElem? (i := 897) (by decide +kernel)⟩
theorem lw_p31 : lw_okq (⟨"SchoolRides", "knowsChild", "(II)Z"⟩, 14) := ⟨⟨by decide +kernel, by decide +kernel⟩, List.mem_of_getElem? (i := 22) (by decide +kernel), List.mem_of_getElem? (i := 904) (by decide +kernel), List.mem_of_getElem? (i := 905) (by decide +kernel)⟩
def lw_privs_2 : List (MethodName × Nat) := [(⟨"SchoolRides$Reader", "placeNamed", "(I)I"⟩, 15), (⟨"SchoolRides$Reader", "wrongIf", "(ZI)V"⟩, 15), (⟨"SchoolRides$Reader", "intAt", "(I)I"⟩, 15), (⟨"SchoolRides$Reader", "readSchool", "(LSchoolRides$Text;)V"⟩, 15), (⟨"SchoolRides$Reader", "readStop", "(LSchoolRides$Text;)V"⟩, 15), (⟨"SchoolRides$Reader", "readRight", "(LSchoolRides$Text;)V"⟩, 15), (⟨"SchoolRides$Reader", "beginLiteral", "()V"⟩, 15), (⟨"SchoolRides$Reader", "readOperand", "(LSchoolRides$Text;)V"⟩, 15), (⟨"SchoolRides$Reader", "await", "(I)V"⟩, 15), (⟨"SchoolRides$Reader", "readOperator", "(LSchoolRides$Text;)Z"⟩, 15), (⟨"SchoolRides$Reader", "settle", "(LSchoolRides$Text;I)V"⟩, 15), (⟨"SchoolRides$Reader", "mayFollowOperand", "(I)Z"⟩, 15), (⟨"SchoolRides$Reader", "readRule", "(LSchoolRides$Text;I)V"⟩, 15), (⟨"SchoolRides$Reader", "readBus", "(LSchoolRides$Text;)V"⟩, 15), (⟨"SchoolRides", "inForce", "(I)I"⟩, 14), (⟨"SchoolRides", "knowsChild", "(II)Z"⟩, 14)]
theorem lw_r2 : ∀ q ∈ lw_privs_2, lw_okq q := List.forall_mem_cons.mpr ⟨lw_p16, List.forall_mem_cons.mpr ⟨lw_p17, List.forall_mem_cons.mpr ⟨lw_p18, List.forall_mem_cons.mpr ⟨lw_p19, List.forall_mem_cons.mpr ⟨lw_p20, List.forall_mem_cons.mpr ⟨lw_p21, List.forall_mem_cons.mpr ⟨lw_p22, List.forall_mem_cons.mpr ⟨lw_p23, List.forall_mem_cons.mpr ⟨lw_p24, List.forall_mem_cons.mpr ⟨lw_p25, List.forall_mem_cons.mpr ⟨lw_p26, List.forall_mem_cons.mpr ⟨lw_p27, List.forall_mem_cons.mpr ⟨lw_p28, List.forall_mem_cons.mpr ⟨lw_p29, List.forall_mem_cons.mpr ⟨lw_p30, List.forall_mem_cons.mpr ⟨lw_p31, fun _ h => absurd h List.not_mem_nil⟩⟩⟩⟩⟩⟩⟩⟩⟩⟩⟩⟩⟩⟩⟩⟩
theorem lw_p32 : lw_okq (⟨"SchoolRides", "isKnowledge", "(I)Z"⟩, 14) := ⟨⟨by decide +kernel, by decide +kernel⟩, List.mem_of_getElem? (i := 22) (by decide +kernel), List.mem_of_getElem? (i := 908) (by decide +kernel), List.mem_of_getElem? (i := 909) (by decide +kernel)⟩
theorem lw_p33 : lw_okq (⟨"SchoolRides$Facts", "latestMove", "(IIII)I"⟩, 9) := ⟨⟨by decide +kernel, by decide +kernel⟩, List.mem_of_getElem? (i := 171) (by decide +kernel), List.mem_of_getElem? (i := 920) (by decide +kernel), List.mem_of_getElem? (i := 921) (by decide +kernel)⟩
theorem lw_p34 : lw_okq (⟨"SchoolRides", "look", "(II)Z"⟩, 14) := ⟨⟨by decide +kernel, by decide +kernel⟩, List.mem_of_getElem? (i := 22) (by decide +kernel), List.mem_of_getElem? (i := 935) (by decide +kernel), List.mem_of_getElem? (i := 936) (by decide +kernel)⟩
theorem lw_p35 : lw_okq (⟨"SchoolRides$View", "findUsableWays", "()V"⟩, 15) := ⟨⟨by decide +kernel, by decide +kernel⟩, List.mem_of_getElem? (i := 163) (by decide +kernel), List.mem_of_getElem? (i := 946) (by decide +kernel), List.mem_of_getElem? (i := 947) (by decide +kernel)⟩
theorem lw_p36 : lw_okq (⟨"SchoolRides$View", "findSums", "(II)V"⟩, 15) := ⟨⟨by decide +kernel, by decide +kernel⟩, List.mem_of_getElem? (i := 163) (by decide +kernel), List.mem_of_getElem? (i := 956) (by decide +kernel), List.mem_of_getElem? (i := 957) (by decide +kernel)⟩
theorem lw_p37 : lw_okq (⟨"SchoolRides$View", "nextPlace", "(III)I"⟩, 15) := ⟨⟨by decide +kernel, by decide +kernel⟩, List.mem_of_getElem? (i := 163) (by decide +kernel), List.mem_of_getElem? (i := 970) (by decide +kernel), List.mem_of_getElem? (i := 971) (by decide +kernel)⟩
theorem lw_p38 : lw_okq (⟨"SchoolRides$View", "otherEnd", "(II)I"⟩, 15) := ⟨⟨by decide +kernel, by decide +kernel⟩, List.mem_of_getElem? (i := 163) (by decide +kernel), List.mem_of_getElem? (i := 974) (by decide +kernel), List.mem_of_getElem? (i := 975) (by decide +kernel)⟩
theorem lw_p39 : lw_okq (⟨"SchoolRides$Text", "holds", "(II[I)Z"⟩, 19) := ⟨⟨by decide +kernel, by decide +kernel⟩, List.mem_of_getElem? (i := 218) (by decide +kernel), List.mem_of_getElem? (i := 994) (by decide +kernel), List.mem_of_getElem? (i := 995) (by decide +kernel)⟩
theorem lw_p40 : lw_okq (⟨"SchoolRides$View", "nearestStop", "(I)I"⟩, 15) := ⟨⟨by decide +kernel, by decide +kernel⟩, List.mem_of_getElem? (i := 163) (by decide +kernel), List.mem_of_getElem? (i := 1001) (by decide +kernel), List.mem_of_getElem? (i := 1002) (by decide +kernel)⟩
theorem lw_p41 : lw_okq (⟨"SchoolRides", "rightHolders", "()I"⟩, 14) := ⟨⟨by decide +kernel, by decide +kernel⟩, List.mem_of_getElem? (i := 22) (by decide +kernel), List.mem_of_getElem? (i := 1009) (by decide +kernel), List.mem_of_getElem? (i := 1010) (by decide +kernel)⟩
theorem lw_p42 : lw_okq (⟨"SchoolRides", "canPlan", "(III)Z"⟩, 14) := ⟨⟨by decide +kernel, by decide +kernel⟩, List.mem_of_getElem? (i := 22) (by decide +kernel), List.mem_of_getElem? (i := 1032) (by decide +kernel), List.mem_of_getElem? (i := 1033) (by decide +kernel)⟩
theorem lw_p43 : lw_okq (⟨"SchoolRides", "preparePlan", "(I)V"⟩, 14) := ⟨⟨by decide +kernel, by decide +kernel⟩, List.mem_of_getElem? (i := 22) (by decide +kernel), List.mem_of_getElem? (i := 1036) (by decide +kernel), List.mem_of_getElem? (i := 1037) (by decide +kernel)⟩
theorem lw_p44 : lw_okq (⟨"SchoolRides$Plan", "gatherRiders", "(LSchoolRides$View;I)V"⟩, 18) := ⟨⟨by decide +kernel, by decide +kernel⟩, List.mem_of_getElem? (i := 376) (by decide +kernel), List.mem_of_getElem? (i := 1044) (by decide +kernel), List.mem_of_getElem? (i := 1045) (by decide +kernel)⟩
theorem lw_p45 : lw_okq (⟨"SchoolRides$Plan", "gatherParted", "(LSchoolRides$View;I)V"⟩, 18) := ⟨⟨by decide +kernel, by decide +kernel⟩, List.mem_of_getElem? (i := 376) (by decide +kernel), List.mem_of_getElem? (i := 1049) (by decide +kernel), List.mem_of_getElem? (i := 1050) (by decide +kernel)⟩
theorem lw_p46 : lw_okq (⟨"SchoolRides$Plan", "measure", "(LSchoolRides$View;I)V"⟩, 18) := ⟨⟨by decide +kernel, by decide +kernel⟩, List.mem_of_getElem? (i := 376) (by decide +kernel), List.mem_of_getElem? (i := 1057) (by decide +kernel), List.mem_of_getElem? (i := 1058) (by decide +kernel)⟩
theorem lw_p47 : lw_okq (⟨"SchoolRides$Plan", "findRoute", "(I)V"⟩, 18) := ⟨⟨by decide +kernel, by decide +kernel⟩, List.mem_of_getElem? (i := 376) (by decide +kernel), List.mem_of_getElem? (i := 1063) (by decide +kernel), List.mem_of_getElem? (i := 1064) (by decide +kernel)⟩
def lw_privs_3 : List (MethodName × Nat) := [(⟨"SchoolRides", "isKnowledge", "(I)Z"⟩, 14), (⟨"SchoolRides$Facts", "latestMove", "(IIII)I"⟩, 9), (⟨"SchoolRides", "look", "(II)Z"⟩, 14), (⟨"SchoolRides$View", "findUsableWays", "()V"⟩, 15), (⟨"SchoolRides$View", "findSums", "(II)V"⟩, 15), (⟨"SchoolRides$View", "nextPlace", "(III)I"⟩, 15), (⟨"SchoolRides$View", "otherEnd", "(II)I"⟩, 15), (⟨"SchoolRides$Text", "holds", "(II[I)Z"⟩, 19), (⟨"SchoolRides$View", "nearestStop", "(I)I"⟩, 15), (⟨"SchoolRides", "rightHolders", "()I"⟩, 14), (⟨"SchoolRides", "canPlan", "(III)Z"⟩, 14), (⟨"SchoolRides", "preparePlan", "(I)V"⟩, 14), (⟨"SchoolRides$Plan", "gatherRiders", "(LSchoolRides$View;I)V"⟩, 18), (⟨"SchoolRides$Plan", "gatherParted", "(LSchoolRides$View;I)V"⟩, 18), (⟨"SchoolRides$Plan", "measure", "(LSchoolRides$View;I)V"⟩, 18), (⟨"SchoolRides$Plan", "findRoute", "(I)V"⟩, 18)]
theorem lw_r3 : ∀ q ∈ lw_privs_3, lw_okq q := List.forall_mem_cons.mpr ⟨lw_p32, List.forall_mem_cons.mpr ⟨lw_p33, List.forall_mem_cons.mpr ⟨lw_p34, List.forall_mem_cons.mpr ⟨lw_p35, List.forall_mem_cons.mpr ⟨lw_p36, List.forall_mem_cons.mpr ⟨lw_p37, List.forall_mem_cons.mpr ⟨lw_p38, List.forall_mem_cons.mpr ⟨lw_p39, List.forall_mem_cons.mpr ⟨lw_p40, List.forall_mem_cons.mpr ⟨lw_p41, List.forall_mem_cons.mpr ⟨lw_p42, List.forall_mem_cons.mpr ⟨lw_p43, List.forall_mem_cons.mpr ⟨lw_p44, List.forall_mem_cons.mpr ⟨lw_p45, List.forall_mem_cons.mpr ⟨lw_p46, List.forall_mem_cons.mpr ⟨lw_p47, fun _ h => absurd h List.not_mem_nil⟩⟩⟩⟩⟩⟩⟩⟩⟩⟩⟩⟩⟩⟩⟩⟩
theorem lw_p48 : lw_okq (⟨"SchoolRides$Plan", "leastBehind", "(II)I"⟩, 18) := ⟨⟨by decide +kernel, by decide +kernel⟩, List.mem_of_getElem? (i := 376) (by decide +kernel), List.mem_of_getElem? (i := 1067) (by decide +kernel), List.mem_of_getElem? (i := 1068) (by decide +kernel)⟩
theorem lw_p49 : lw_okq (⟨"SchoolRides$Plan", "canBeGood", "(I[I)Z"⟩, 18) := ⟨⟨by decide +kernel, by decide +kernel⟩, List.mem_of_getElem? (i := 376) (by decide +kernel), List.mem_of_getElem? (i := 1072) (by decide +kernel), List.mem_of_getElem? (i := 1073) (by decide +kernel)⟩
theorem lw_p50 : lw_okq (⟨"SchoolRides$Plan", "choose", "(I[I)V"⟩, 18) := ⟨⟨by decide +kernel, by decide +kernel⟩, List.mem_of_getElem? (i := 376) (by decide +kernel), List.mem_of_getElem? (i := 1076) (by decide +kernel), List.mem_of_getElem? (i := 1077) (by decide +kernel)⟩
theorem lw_p51 : lw_okq (⟨"SchoolRides$Plan", "weighTaxi", "(III)V"⟩, 18) := ⟨⟨by decide +kernel, by decide +kernel⟩, List.mem_of_getElem? (i := 376) (by decide +kernel), List.mem_of_getElem? (i := 1082) (by decide +kernel), List.mem_of_getElem? (i := 1083) (by decide +kernel)⟩
theorem lw_p52 : lw_okq (⟨"SchoolRides$Plan", "payOf", "(I[I)I"⟩, 18) := ⟨⟨by decide +kernel, by decide +kernel⟩, List.mem_of_getElem? (i := 376) (by decide +kernel), List.mem_of_getElem? (i := 1086) (by decide +kernel), List.mem_of_getElem? (i := 1087) (by decide +kernel)⟩
theorem lw_p53 : lw_okq (⟨"SchoolRides$Plan", "weighRoute", "(III)V"⟩, 18) := ⟨⟨by decide +kernel, by decide +kernel⟩, List.mem_of_getElem? (i := 376) (by decide +kernel), List.mem_of_getElem? (i := 1090) (by decide +kernel), List.mem_of_getElem? (i := 1091) (by decide +kernel)⟩
theorem lw_p54 : lw_okq (⟨"SchoolRides$Plan", "listRoutes", "()V"⟩, 18) := ⟨⟨by decide +kernel, by decide +kernel⟩, List.mem_of_getElem? (i := 376) (by decide +kernel), List.mem_of_getElem? (i := 1094) (by decide +kernel), List.mem_of_getElem? (i := 1095) (by decide +kernel)⟩
theorem lw_p55 : lw_okq (⟨"SchoolRides", "isStopSet", "(I)Z"⟩, 14) := ⟨⟨by decide +kernel, by decide +kernel⟩, List.mem_of_getElem? (i := 22) (by decide +kernel), List.mem_of_getElem? (i := 1106) (by decide +kernel), List.mem_of_getElem? (i := 1107) (by decide +kernel)⟩
theorem lw_p56 : lw_okq (⟨"SchoolRides$Plan", "firstWith", "(III)I"⟩, 18) := ⟨⟨by decide +kernel, by decide +kernel⟩, List.mem_of_getElem? (i := 376) (by decide +kernel), List.mem_of_getElem? (i := 1119) (by decide +kernel), List.mem_of_getElem? (i := 1120) (by decide +kernel)⟩
theorem lw_p57 : lw_okq (⟨"SchoolRides", "gatherFleet", "()Z"⟩, 14) := ⟨⟨by decide +kernel, by decide +kernel⟩, List.mem_of_getElem? (i := 22) (by decide +kernel), List.mem_of_getElem? (i := 1160) (by decide +kernel), List.mem_of_getElem? (i := 1161) (by decide +kernel)⟩
theorem lw_p58 : lw_okq (⟨"SchoolRides$Fleet", "noteFollower", "(III)V"⟩, 18) := ⟨⟨by decide +kernel, by decide +kernel⟩, List.mem_of_getElem? (i := 448) (by decide +kernel), List.mem_of_getElem? (i := 1181) (by decide +kernel), List.mem_of_getElem? (i := 1182) (by decide +kernel)⟩
theorem lw_p59 : lw_okq (⟨"SchoolRides$Fleet", "fewestBuses", "()I"⟩, 18) := ⟨⟨by decide +kernel, by decide +kernel⟩, List.mem_of_getElem? (i := 448) (by decide +kernel), List.mem_of_getElem? (i := 1189) (by decide +kernel), List.mem_of_getElem? (i := 1190) (by decide +kernel)⟩
theorem lw_p60 : lw_okq (⟨"SchoolRides$Fleet", "followersOf", "(I)I"⟩, 18) := ⟨⟨by decide +kernel, by decide +kernel⟩, List.mem_of_getElem? (i := 448) (by decide +kernel), List.mem_of_getElem? (i := 1193) (by decide +kernel), List.mem_of_getElem? (i := 1194) (by decide +kernel)⟩
theorem lw_p61 : lw_okq (⟨"SchoolRides$Fleet", "findFollower", "(I)Z"⟩, 18) := ⟨⟨by decide +kernel, by decide +kernel⟩, List.mem_of_getElem? (i := 448) (by decide +kernel), List.mem_of_getElem? (i := 1197) (by decide +kernel), List.mem_of_getElem? (i := 1198) (by decide +kernel)⟩
theorem lw_p62 : lw_okq (⟨"SchoolRides$Fleet", "joinBack", "(I)V"⟩, 18) := ⟨⟨by decide +kernel, by decide +kernel⟩, List.mem_of_getElem? (i := 448) (by decide +kernel), List.mem_of_getElem? (i := 1202) (by decide +kernel), List.mem_of_getElem? (i := 1203) (by decide +kernel)⟩
theorem lw_p63 : lw_okq (⟨"SchoolRides$Fleet", "putBells", "(I)V"⟩, 18) := ⟨⟨by decide +kernel, by decide +kernel⟩, List.mem_of_getElem? (i := 448) (by decide +kernel), List.mem_of_getElem? (i := 1214) (by decide +kernel), List.mem_of_getElem? (i := 1215) (by decide +kernel)⟩
def lw_privs_4 : List (MethodName × Nat) := [(⟨"SchoolRides$Plan", "leastBehind", "(II)I"⟩, 18), (⟨"SchoolRides$Plan", "canBeGood", "(I[I)Z"⟩, 18), (⟨"SchoolRides$Plan", "choose", "(I[I)V"⟩, 18), (⟨"SchoolRides$Plan", "weighTaxi", "(III)V"⟩, 18), (⟨"SchoolRides$Plan", "payOf", "(I[I)I"⟩, 18), (⟨"SchoolRides$Plan", "weighRoute", "(III)V"⟩, 18), (⟨"SchoolRides$Plan", "listRoutes", "()V"⟩, 18), (⟨"SchoolRides", "isStopSet", "(I)Z"⟩, 14), (⟨"SchoolRides$Plan", "firstWith", "(III)I"⟩, 18), (⟨"SchoolRides", "gatherFleet", "()Z"⟩, 14), (⟨"SchoolRides$Fleet", "noteFollower", "(III)V"⟩, 18), (⟨"SchoolRides$Fleet", "fewestBuses", "()I"⟩, 18), (⟨"SchoolRides$Fleet", "followersOf", "(I)I"⟩, 18), (⟨"SchoolRides$Fleet", "findFollower", "(I)Z"⟩, 18), (⟨"SchoolRides$Fleet", "joinBack", "(I)V"⟩, 18), (⟨"SchoolRides$Fleet", "putBells", "(I)V"⟩, 18)]
theorem lw_r4 : ∀ q ∈ lw_privs_4, lw_okq q := List.forall_mem_cons.mpr ⟨lw_p48, List.forall_mem_cons.mpr ⟨lw_p49, List.forall_mem_cons.mpr ⟨lw_p50, List.forall_mem_cons.mpr ⟨lw_p51, List.forall_mem_cons.mpr ⟨lw_p52, List.forall_mem_cons.mpr ⟨lw_p53, List.forall_mem_cons.mpr ⟨lw_p54, List.forall_mem_cons.mpr ⟨lw_p55, List.forall_mem_cons.mpr ⟨lw_p56, List.forall_mem_cons.mpr ⟨lw_p57, List.forall_mem_cons.mpr ⟨lw_p58, List.forall_mem_cons.mpr ⟨lw_p59, List.forall_mem_cons.mpr ⟨lw_p60, List.forall_mem_cons.mpr ⟨lw_p61, List.forall_mem_cons.mpr ⟨lw_p62, List.forall_mem_cons.mpr ⟨lw_p63, fun _ h => absurd h List.not_mem_nil⟩⟩⟩⟩⟩⟩⟩⟩⟩⟩⟩⟩⟩⟩⟩⟩
theorem lw_p64 : lw_okq (⟨"SchoolRides$Fleet", "putsExistingAlone", "()Z"⟩, 18) := ⟨⟨by decide +kernel, by decide +kernel⟩, List.mem_of_getElem? (i := 448) (by decide +kernel), List.mem_of_getElem? (i := 1221) (by decide +kernel), List.mem_of_getElem? (i := 1222) (by decide +kernel)⟩
theorem lw_p65 : lw_okq (⟨"SchoolRides$Fleet", "keepPuts", "()V"⟩, 18) := ⟨⟨by decide +kernel, by decide +kernel⟩, List.mem_of_getElem? (i := 448) (by decide +kernel), List.mem_of_getElem? (i := 1225) (by decide +kernel), List.mem_of_getElem? (i := 1226) (by decide +kernel)⟩
theorem lw_p66 : lw_okq (⟨"SchoolRides$Tender", "markReached", "(II)V"⟩, 9) := ⟨⟨by decide +kernel, by decide +kernel⟩, List.mem_of_getElem? (i := 512) (by decide +kernel), List.mem_of_getElem? (i := 1255) (by decide +kernel), List.mem_of_getElem? (i := 1256) (by decide +kernel)⟩
theorem lw_p67 : lw_okq (⟨"SchoolRides$Tender", "fits", "(III)Z"⟩, 9) := ⟨⟨by decide +kernel, by decide +kernel⟩, List.mem_of_getElem? (i := 512) (by decide +kernel), List.mem_of_getElem? (i := 1259) (by decide +kernel), List.mem_of_getElem? (i := 1260) (by decide +kernel)⟩
theorem lw_p68 : lw_okq (⟨"SchoolRides$Tender", "choose", "(II)V"⟩, 9) := ⟨⟨by decide +kernel, by decide +kernel⟩, List.mem_of_getElem? (i := 512) (by decide +kernel), List.mem_of_getElem? (i := 1263) (by decide +kernel), List.mem_of_getElem? (i := 1264) (by decide +kernel)⟩
theorem lw_p69 : lw_okq (⟨"SchoolRides$Crew", "leastFrom", "(II)I"⟩, 7) := ⟨⟨by decide +kernel, by decide +kernel⟩, List.mem_of_getElem? (i := 548) (by decide +kernel), List.mem_of_getElem? (i := 1309) (by decide +kernel), List.mem_of_getElem? (i := 1310) (by decide +kernel)⟩
theorem lw_p70 : lw_okq (⟨"SchoolRides$Crew", "canDrive", "(III)Z"⟩, 7) := ⟨⟨by decide +kernel, by decide +kernel⟩, List.mem_of_getElem? (i := 548) (by decide +kernel), List.mem_of_getElem? (i := 1313) (by decide +kernel), List.mem_of_getElem? (i := 1314) (by decide +kernel)⟩
theorem lw_p71 : lw_okq (⟨"SchoolRides$Crew", "listDrivers", "(I)V"⟩, 7) := ⟨⟨by decide +kernel, by decide +kernel⟩, List.mem_of_getElem? (i := 548) (by decide +kernel), List.mem_of_getElem? (i := 1318) (by decide +kernel), List.mem_of_getElem? (i := 1319) (by decide +kernel)⟩
theorem lw_p72 : lw_okq (⟨"SchoolRides$Crew", "firstDriver", "(II)I"⟩, 7) := ⟨⟨by decide +kernel, by decide +kernel⟩, List.mem_of_getElem? (i := 548) (by decide +kernel), List.mem_of_getElem? (i := 1322) (by decide +kernel), List.mem_of_getElem? (i := 1323) (by decide +kernel)⟩
theorem lw_p73 : lw_okq (⟨"SchoolRides", "findLent", "(II)I"⟩, 14) := ⟨⟨by decide +kernel, by decide +kernel⟩, List.mem_of_getElem? (i := 22) (by decide +kernel), List.mem_of_getElem? (i := 1368) (by decide +kernel), List.mem_of_getElem? (i := 1369) (by decide +kernel)⟩
theorem lw_p74 : lw_okq (⟨"SchoolRides", "isLent", "(II)Z"⟩, 14) := ⟨⟨by decide +kernel, by decide +kernel⟩, List.mem_of_getElem? (i := 22) (by decide +kernel), List.mem_of_getElem? (i := 1377) (by decide +kernel), List.mem_of_getElem? (i := 1378) (by decide +kernel)⟩
theorem lw_p75 : lw_okq (⟨"SchoolRides", "countInText", "(II)I"⟩, 14) := ⟨⟨by decide +kernel, by decide +kernel⟩, List.mem_of_getElem? (i := 22) (by decide +kernel), List.mem_of_getElem? (i := 1390) (by decide +kernel), List.mem_of_getElem? (i := 1391) (by decide +kernel)⟩
theorem lw_p76 : lw_okq (⟨"SchoolRidesModel", "typed", "(I)V"⟩, 105) := ⟨⟨by decide +kernel, by decide +kernel⟩, List.mem_of_getElem? (i := 1394) (by decide +kernel), List.mem_of_getElem? (i := 1720) (by decide +kernel), List.mem_of_getElem? (i := 1721) (by decide +kernel)⟩
theorem lw_p77 : lw_okq (⟨"SchoolRidesModel", "scanAll", "()V"⟩, 105) := ⟨⟨by decide +kernel, by decide +kernel⟩, List.mem_of_getElem? (i := 1394) (by decide +kernel), List.mem_of_getElem? (i := 1732) (by decide +kernel), List.mem_of_getElem? (i := 1733) (by decide +kernel)⟩
theorem lw_p78 : lw_okq (⟨"SchoolRidesModel", "byteAt", "(I)I"⟩, 105) := ⟨⟨by decide +kernel, by decide +kernel⟩, List.mem_of_getElem? (i := 1394) (by decide +kernel), List.mem_of_getElem? (i := 1736) (by decide +kernel), List.mem_of_getElem? (i := 1737) (by decide +kernel)⟩
theorem lw_p79 : lw_okq (⟨"SchoolRidesModel", "scan", "(I)I"⟩, 105) := ⟨⟨by decide +kernel, by decide +kernel⟩, List.mem_of_getElem? (i := 1394) (by decide +kernel), List.mem_of_getElem? (i := 1740) (by decide +kernel), List.mem_of_getElem? (i := 1741) (by decide +kernel)⟩
def lw_privs_5 : List (MethodName × Nat) := [(⟨"SchoolRides$Fleet", "putsExistingAlone", "()Z"⟩, 18), (⟨"SchoolRides$Fleet", "keepPuts", "()V"⟩, 18), (⟨"SchoolRides$Tender", "markReached", "(II)V"⟩, 9), (⟨"SchoolRides$Tender", "fits", "(III)Z"⟩, 9), (⟨"SchoolRides$Tender", "choose", "(II)V"⟩, 9), (⟨"SchoolRides$Crew", "leastFrom", "(II)I"⟩, 7), (⟨"SchoolRides$Crew", "canDrive", "(III)Z"⟩, 7), (⟨"SchoolRides$Crew", "listDrivers", "(I)V"⟩, 7), (⟨"SchoolRides$Crew", "firstDriver", "(II)I"⟩, 7), (⟨"SchoolRides", "findLent", "(II)I"⟩, 14), (⟨"SchoolRides", "isLent", "(II)Z"⟩, 14), (⟨"SchoolRides", "countInText", "(II)I"⟩, 14), (⟨"SchoolRidesModel", "typed", "(I)V"⟩, 105), (⟨"SchoolRidesModel", "scanAll", "()V"⟩, 105), (⟨"SchoolRidesModel", "byteAt", "(I)I"⟩, 105), (⟨"SchoolRidesModel", "scan", "(I)I"⟩, 105)]
theorem lw_r5 : ∀ q ∈ lw_privs_5, lw_okq q := List.forall_mem_cons.mpr ⟨lw_p64, List.forall_mem_cons.mpr ⟨lw_p65, List.forall_mem_cons.mpr ⟨lw_p66, List.forall_mem_cons.mpr ⟨lw_p67, List.forall_mem_cons.mpr ⟨lw_p68, List.forall_mem_cons.mpr ⟨lw_p69, List.forall_mem_cons.mpr ⟨lw_p70, List.forall_mem_cons.mpr ⟨lw_p71, List.forall_mem_cons.mpr ⟨lw_p72, List.forall_mem_cons.mpr ⟨lw_p73, List.forall_mem_cons.mpr ⟨lw_p74, List.forall_mem_cons.mpr ⟨lw_p75, List.forall_mem_cons.mpr ⟨lw_p76, List.forall_mem_cons.mpr ⟨lw_p77, List.forall_mem_cons.mpr ⟨lw_p78, List.forall_mem_cons.mpr ⟨lw_p79, fun _ h => absurd h List.not_mem_nil⟩⟩⟩⟩⟩⟩⟩⟩⟩⟩⟩⟩⟩⟩⟩⟩
theorem lw_p80 : lw_okq (⟨"SchoolRidesModel", "isLetter", "(I)Z"⟩, 105) := ⟨⟨by decide +kernel, by decide +kernel⟩, List.mem_of_getElem? (i := 1394) (by decide +kernel), List.mem_of_getElem? (i := 1744) (by decide +kernel), List.mem_of_getElem? (i := 1745) (by decide +kernel)⟩
theorem lw_p81 : lw_okq (⟨"SchoolRidesModel", "token", "(III)V"⟩, 105) := ⟨⟨by decide +kernel, by decide +kernel⟩, List.mem_of_getElem? (i := 1394) (by decide +kernel), List.mem_of_getElem? (i := 1775) (by decide +kernel), List.mem_of_getElem? (i := 1776) (by decide +kernel)⟩
theorem lw_p82 : lw_okq (⟨"SchoolRidesModel", "isDigit", "(I)Z"⟩, 105) := ⟨⟨by decide +kernel, by decide +kernel⟩, List.mem_of_getElem? (i := 1394) (by decide +kernel), List.mem_of_getElem? (i := 1779) (by decide +kernel), List.mem_of_getElem? (i := 1780) (by decide +kernel)⟩
theorem lw_p83 : lw_okq (⟨"SchoolRidesModel", "signAt", "(I)I"⟩, 105) := ⟨⟨by decide +kernel, by decide +kernel⟩, List.mem_of_getElem? (i := 1394) (by decide +kernel), List.mem_of_getElem? (i := 1783) (by decide +kernel), List.mem_of_getElem? (i := 1784) (by decide +kernel)⟩
theorem lw_p84 : lw_okq (⟨"SchoolRidesModel", "begin", "(I)V"⟩, 105) := ⟨⟨by decide +kernel, by decide +kernel⟩, List.mem_of_getElem? (i := 1394) (by decide +kernel), List.mem_of_getElem? (i := 1787) (by decide +kernel), List.mem_of_getElem? (i := 1788) (by decide +kernel)⟩
theorem lw_p85 : lw_okq (⟨"SchoolRidesModel", "parses", "()Z"⟩, 105) := ⟨⟨by decide +kernel, by decide +kernel⟩, List.mem_of_getElem? (i := 1394) (by decide +kernel), List.mem_of_getElem? (i := 1791) (by decide +kernel), List.mem_of_getElem? (i := 1792) (by decide +kernel)⟩
theorem lw_p86 : lw_okq (⟨"SchoolRidesModel", "tell", "()Z"⟩, 105) := ⟨⟨by decide +kernel, by decide +kernel⟩, List.mem_of_getElem? (i := 1394) (by decide +kernel), List.mem_of_getElem? (i := 1795) (by decide +kernel), List.mem_of_getElem? (i := 1796) (by decide +kernel)⟩
theorem lw_p87 : lw_okq (⟨"SchoolRidesModel", "wrong", "(I)Z"⟩, 105) := ⟨⟨by decide +kernel, by decide +kernel⟩, List.mem_of_getElem? (i := 1394) (by decide +kernel), List.mem_of_getElem? (i := 1799) (by decide +kernel), List.mem_of_getElem? (i := 1800) (by decide +kernel)⟩
theorem lw_p88 : lw_okq (⟨"SchoolRidesModel", "pass", "()Z"⟩, 105) := ⟨⟨by decide +kernel, by decide +kernel⟩, List.mem_of_getElem? (i := 1394) (by decide +kernel), List.mem_of_getElem? (i := 1803) (by decide +kernel), List.mem_of_getElem? (i := 1804) (by decide +kernel)⟩
theorem lw_p89 : lw_okq (⟨"SchoolRidesModel", "names", "(I)Z"⟩, 105) := ⟨⟨by decide +kernel, by decide +kernel⟩, List.mem_of_getElem? (i := 1394) (by decide +kernel), List.mem_of_getElem? (i := 1807) (by decide +kernel), List.mem_of_getElem? (i := 1808) (by decide +kernel)⟩
theorem lw_p90 : lw_okq (⟨"SchoolRidesModel", "takes", "(I)Z"⟩, 105) := ⟨⟨by decide +kernel, by decide +kernel⟩, List.mem_of_getElem? (i := 1394) (by decide +kernel), List.mem_of_getElem? (i := 1811) (by decide +kernel), List.mem_of_getElem? (i := 1812) (by decide +kernel)⟩
theorem lw_p91 : lw_okq (⟨"SchoolRidesModel", "tells", "(II)V"⟩, 105) := ⟨⟨by decide +kernel, by decide +kernel⟩, List.mem_of_getElem? (i := 1394) (by decide +kernel), List.mem_of_getElem? (i := 1815) (by decide +kernel), List.mem_of_getElem? (i := 1816) (by decide +kernel)⟩
theorem lw_p92 : lw_okq (⟨"SchoolRidesModel", "tellWay", "()Z"⟩, 105) := ⟨⟨by decide +kernel, by decide +kernel⟩, List.mem_of_getElem? (i := 1394) (by decide +kernel), List.mem_of_getElem? (i := 1819) (by decide +kernel), List.mem_of_getElem? (i := 1820) (by decide +kernel)⟩
theorem lw_p93 : lw_okq (⟨"SchoolRidesModel", "placeAt", "(I)I"⟩, 105) := ⟨⟨by decide +kernel, by decide +kernel⟩, List.mem_of_getElem? (i := 1394) (by decide +kernel), List.mem_of_getElem? (i := 1823) (by decide +kernel), List.mem_of_getElem? (i := 1824) (by decide +kernel)⟩
theorem lw_p94 : lw_okq (⟨"SchoolRidesModel", "takesInt", "(II)Z"⟩, 105) := ⟨⟨by decide +kernel, by decide +kernel⟩, List.mem_of_getElem? (i := 1394) (by decide +kernel), List.mem_of_getElem? (i := 1827) (by decide +kernel), List.mem_of_getElem? (i := 1828) (by decide +kernel)⟩
theorem lw_p95 : lw_okq (⟨"SchoolRidesModel", "isWord", "(I)Z"⟩, 105) := ⟨⟨by decide +kernel, by decide +kernel⟩, List.mem_of_getElem? (i := 1394) (by decide +kernel), List.mem_of_getElem? (i := 1831) (by decide +kernel), List.mem_of_getElem? (i := 1832) (by decide +kernel)⟩
def lw_privs_6 : List (MethodName × Nat) := [(⟨"SchoolRidesModel", "isLetter", "(I)Z"⟩, 105), (⟨"SchoolRidesModel", "token", "(III)V"⟩, 105), (⟨"SchoolRidesModel", "isDigit", "(I)Z"⟩, 105), (⟨"SchoolRidesModel", "signAt", "(I)I"⟩, 105), (⟨"SchoolRidesModel", "begin", "(I)V"⟩, 105), (⟨"SchoolRidesModel", "parses", "()Z"⟩, 105), (⟨"SchoolRidesModel", "tell", "()Z"⟩, 105), (⟨"SchoolRidesModel", "wrong", "(I)Z"⟩, 105), (⟨"SchoolRidesModel", "pass", "()Z"⟩, 105), (⟨"SchoolRidesModel", "names", "(I)Z"⟩, 105), (⟨"SchoolRidesModel", "takes", "(I)Z"⟩, 105), (⟨"SchoolRidesModel", "tells", "(II)V"⟩, 105), (⟨"SchoolRidesModel", "tellWay", "()Z"⟩, 105), (⟨"SchoolRidesModel", "placeAt", "(I)I"⟩, 105), (⟨"SchoolRidesModel", "takesInt", "(II)Z"⟩, 105), (⟨"SchoolRidesModel", "isWord", "(I)Z"⟩, 105)]
theorem lw_r6 : ∀ q ∈ lw_privs_6, lw_okq q := List.forall_mem_cons.mpr ⟨lw_p80, List.forall_mem_cons.mpr ⟨lw_p81, List.forall_mem_cons.mpr ⟨lw_p82, List.forall_mem_cons.mpr ⟨lw_p83, List.forall_mem_cons.mpr ⟨lw_p84, List.forall_mem_cons.mpr ⟨lw_p85, List.forall_mem_cons.mpr ⟨lw_p86, List.forall_mem_cons.mpr ⟨lw_p87, List.forall_mem_cons.mpr ⟨lw_p88, List.forall_mem_cons.mpr ⟨lw_p89, List.forall_mem_cons.mpr ⟨lw_p90, List.forall_mem_cons.mpr ⟨lw_p91, List.forall_mem_cons.mpr ⟨lw_p92, List.forall_mem_cons.mpr ⟨lw_p93, List.forall_mem_cons.mpr ⟨lw_p94, List.forall_mem_cons.mpr ⟨lw_p95, fun _ h => absurd h List.not_mem_nil⟩⟩⟩⟩⟩⟩⟩⟩⟩⟩⟩⟩⟩⟩⟩⟩
theorem lw_p96 : lw_okq (⟨"SchoolRidesModel", "tellSchool", "()Z"⟩, 105) := ⟨⟨by decide +kernel, by decide +kernel⟩, List.mem_of_getElem? (i := 1394) (by decide +kernel), List.mem_of_getElem? (i := 1835) (by decide +kernel), List.mem_of_getElem? (i := 1836) (by decide +kernel)⟩
theorem lw_p97 : lw_okq (⟨"SchoolRidesModel", "tellStop", "()Z"⟩, 105) := ⟨⟨by decide +kernel, by decide +kernel⟩, List.mem_of_getElem? (i := 1394) (by decide +kernel), List.mem_of_getElem? (i := 1839) (by decide +kernel), List.mem_of_getElem? (i := 1840) (by decide +kernel)⟩
theorem lw_p98 : lw_okq (⟨"SchoolRidesModel", "tellRight", "()Z"⟩, 105) := ⟨⟨by decide +kernel, by decide +kernel⟩, List.mem_of_getElem? (i := 1394) (by decide +kernel), List.mem_of_getElem? (i := 1843) (by decide +kernel), List.mem_of_getElem? (i := 1844) (by decide +kernel)⟩
theorem lw_p99 : lw_okq (⟨"SchoolRidesModel", "cond", "()Z"⟩, 105) := ⟨⟨by decide +kernel, by decide +kernel⟩, List.mem_of_getElem? (i := 1394) (by decide +kernel), List.mem_of_getElem? (i := 1847) (by decide +kernel), List.mem_of_getElem? (i := 1848) (by decide +kernel)⟩
theorem lw_p100 : lw_okq (⟨"SchoolRidesModel", "expr", "()Z"⟩, 105) := ⟨⟨by decide +kernel, by decide +kernel⟩, List.mem_of_getElem? (i := 1394) (by decide +kernel), List.mem_of_getElem? (i := 1851) (by decide +kernel), List.mem_of_getElem? (i := 1852) (by decide +kernel)⟩
theorem lw_p101 : lw_okq (⟨"SchoolRidesModel", "isSign", "(I)Z"⟩, 105) := ⟨⟨by decide +kernel, by decide +kernel⟩, List.mem_of_getElem? (i := 1394) (by decide +kernel), List.mem_of_getElem? (i := 1855) (by decide +kernel), List.mem_of_getElem? (i := 1856) (by decide +kernel)⟩
theorem lw_p102 : lw_okq (⟨"SchoolRidesModel", "await", "(I)V"⟩, 105) := ⟨⟨by decide +kernel, by decide +kernel⟩, List.mem_of_getElem? (i := 1394) (by decide +kernel), List.mem_of_getElem? (i := 1859) (by decide +kernel), List.mem_of_getElem? (i := 1860) (by decide +kernel)⟩
theorem lw_p103 : lw_okq (⟨"SchoolRidesModel", "emit", "(II)V"⟩, 105) := ⟨⟨by decide +kernel, by decide +kernel⟩, List.mem_of_getElem? (i := 1394) (by decide +kernel), List.mem_of_getElem? (i := 1866) (by decide +kernel), List.mem_of_getElem? (i := 1867) (by decide +kernel)⟩
theorem lw_p104 : lw_okq (⟨"SchoolRidesModel", "reduce", "(II)V"⟩, 105) := ⟨⟨by decide +kernel, by decide +kernel⟩, List.mem_of_getElem? (i := 1394) (by decide +kernel), List.mem_of_getElem? (i := 1870) (by decide +kernel), List.mem_of_getElem? (i := 1871) (by decide +kernel)⟩
theorem lw_p105 : lw_okq (⟨"SchoolRidesModel", "tellNumber", "(II)Z"⟩, 105) := ⟨⟨by decide +kernel, by decide +kernel⟩, List.mem_of_getElem? (i := 1394) (by decide +kernel), List.mem_of_getElem? (i := 1877) (by decide +kernel), List.mem_of_getElem? (i := 1878) (by decide +kernel)⟩
theorem lw_p106 : lw_okq (⟨"SchoolRidesModel", "fact", "(IIIII)I"⟩, 105) := ⟨⟨by decide +kernel, by decide +kernel⟩, List.mem_of_getElem? (i := 1394) (by decide +kernel), List.mem_of_getElem? (i := 1892) (by decide +kernel), List.mem_of_getElem? (i := 1893) (by decide +kernel)⟩
theorem lw_p107 : lw_okq (⟨"SchoolRidesModel", "isChild", "(I)Z"⟩, 105) := ⟨⟨by decide +kernel, by decide +kernel⟩, List.mem_of_getElem? (i := 1394) (by decide +kernel), List.mem_of_getElem? (i := 1900) (by decide +kernel), List.mem_of_getElem? (i := 1901) (by decide +kernel)⟩
theorem lw_p108 : lw_okq (⟨"SchoolRidesModel", "isKnown", "(I)Z"⟩, 105) := ⟨⟨by decide +kernel, by decide +kernel⟩, List.mem_of_getElem? (i := 1394) (by decide +kernel), List.mem_of_getElem? (i := 1928) (by decide +kernel), List.mem_of_getElem? (i := 1929) (by decide +kernel)⟩
theorem lw_p109 : lw_okq (⟨"SchoolRidesModel", "isKnownChild", "(II)Z"⟩, 105) := ⟨⟨by decide +kernel, by decide +kernel⟩, List.mem_of_getElem? (i := 1394) (by decide +kernel), List.mem_of_getElem? (i := 1932) (by decide +kernel), List.mem_of_getElem? (i := 1933) (by decide +kernel)⟩
theorem lw_p110 : lw_okq (⟨"SchoolRidesModel", "homeOf", "(III)I"⟩, 105) := ⟨⟨by decide +kernel, by decide +kernel⟩, List.mem_of_getElem? (i := 1394) (by decide +kernel), List.mem_of_getElem? (i := 1936) (by decide +kernel), List.mem_of_getElem? (i := 1937) (by decide +kernel)⟩
theorem lw_p111 : lw_okq (⟨"SchoolRidesModel", "lastHome", "(IIII)I"⟩, 105) := ⟨⟨by decide +kernel, by decide +kernel⟩, List.mem_of_getElem? (i := 1394) (by decide +kernel), List.mem_of_getElem? (i := 1940) (by decide +kernel), List.mem_of_getElem? (i := 1941) (by decide +kernel)⟩
def lw_privs_7 : List (MethodName × Nat) := [(⟨"SchoolRidesModel", "tellSchool", "()Z"⟩, 105), (⟨"SchoolRidesModel", "tellStop", "()Z"⟩, 105), (⟨"SchoolRidesModel", "tellRight", "()Z"⟩, 105), (⟨"SchoolRidesModel", "cond", "()Z"⟩, 105), (⟨"SchoolRidesModel", "expr", "()Z"⟩, 105), (⟨"SchoolRidesModel", "isSign", "(I)Z"⟩, 105), (⟨"SchoolRidesModel", "await", "(I)V"⟩, 105), (⟨"SchoolRidesModel", "emit", "(II)V"⟩, 105), (⟨"SchoolRidesModel", "reduce", "(II)V"⟩, 105), (⟨"SchoolRidesModel", "tellNumber", "(II)Z"⟩, 105), (⟨"SchoolRidesModel", "fact", "(IIIII)I"⟩, 105), (⟨"SchoolRidesModel", "isChild", "(I)Z"⟩, 105), (⟨"SchoolRidesModel", "isKnown", "(I)Z"⟩, 105), (⟨"SchoolRidesModel", "isKnownChild", "(II)Z"⟩, 105), (⟨"SchoolRidesModel", "homeOf", "(III)I"⟩, 105), (⟨"SchoolRidesModel", "lastHome", "(IIII)I"⟩, 105)]
theorem lw_r7 : ∀ q ∈ lw_privs_7, lw_okq q := List.forall_mem_cons.mpr ⟨lw_p96, List.forall_mem_cons.mpr ⟨lw_p97, List.forall_mem_cons.mpr ⟨lw_p98, List.forall_mem_cons.mpr ⟨lw_p99, List.forall_mem_cons.mpr ⟨lw_p100, List.forall_mem_cons.mpr ⟨lw_p101, List.forall_mem_cons.mpr ⟨lw_p102, List.forall_mem_cons.mpr ⟨lw_p103, List.forall_mem_cons.mpr ⟨lw_p104, List.forall_mem_cons.mpr ⟨lw_p105, List.forall_mem_cons.mpr ⟨lw_p106, List.forall_mem_cons.mpr ⟨lw_p107, List.forall_mem_cons.mpr ⟨lw_p108, List.forall_mem_cons.mpr ⟨lw_p109, List.forall_mem_cons.mpr ⟨lw_p110, List.forall_mem_cons.mpr ⟨lw_p111, fun _ h => absurd h List.not_mem_nil⟩⟩⟩⟩⟩⟩⟩⟩⟩⟩⟩⟩⟩⟩⟩⟩
theorem lw_p112 : lw_okq (⟨"SchoolRidesModel", "isLive", "(II)Z"⟩, 105) := ⟨⟨by decide +kernel, by decide +kernel⟩, List.mem_of_getElem? (i := 1394) (by decide +kernel), List.mem_of_getElem? (i := 1944) (by decide +kernel), List.mem_of_getElem? (i := 1945) (by decide +kernel)⟩
theorem lw_p113 : lw_okq (⟨"SchoolRidesModel", "isDist", "(IIIII)Z"⟩, 105) := ⟨⟨by decide +kernel, by decide +kernel⟩, List.mem_of_getElem? (i := 1394) (by decide +kernel), List.mem_of_getElem? (i := 1952) (by decide +kernel), List.mem_of_getElem? (i := 1953) (by decide +kernel)⟩
theorem lw_p114 : lw_okq (⟨"SchoolRidesModel", "isDay", "(II)Z"⟩, 105) := ⟨⟨by decide +kernel, by decide +kernel⟩, List.mem_of_getElem? (i := 1394) (by decide +kernel), List.mem_of_getElem? (i := 1956) (by decide +kernel), List.mem_of_getElem? (i := 1957) (by decide +kernel)⟩
theorem lw_p115 : lw_okq (⟨"SchoolRidesModel", "lay", "(II)V"⟩, 105) := ⟨⟨by decide +kernel, by decide +kernel⟩, List.mem_of_getElem? (i := 1394) (by decide +kernel), List.mem_of_getElem? (i := 1961) (by decide +kernel), List.mem_of_getElem? (i := 1962) (by decide +kernel)⟩
theorem lw_p116 : lw_okq (⟨"SchoolRidesModel", "isOpen", "(II)Z"⟩, 105) := ⟨⟨by decide +kernel, by decide +kernel⟩, List.mem_of_getElem? (i := 1394) (by decide +kernel), List.mem_of_getElem? (i := 1965) (by decide +kernel), List.mem_of_getElem? (i := 1966) (by decide +kernel)⟩
theorem lw_p117 : lw_okq (⟨"SchoolRidesModel", "weightOf", "(II)I"⟩, 105) := ⟨⟨by decide +kernel, by decide +kernel⟩, List.mem_of_getElem? (i := 1394) (by decide +kernel), List.mem_of_getElem? (i := 1969) (by decide +kernel), List.mem_of_getElem? (i := 1970) (by decide +kernel)⟩
theorem lw_p118 : lw_okq (⟨"SchoolRidesModel", "join", "(IIII)V"⟩, 105) := ⟨⟨by decide +kernel, by decide +kernel⟩, List.mem_of_getElem? (i := 1394) (by decide +kernel), List.mem_of_getElem? (i := 1973) (by decide +kernel), List.mem_of_getElem? (i := 1974) (by decide +kernel)⟩
theorem lw_p119 : lw_okq (⟨"SchoolRidesModel", "leastOf", "(III)I"⟩, 105) := ⟨⟨by decide +kernel, by decide +kernel⟩, List.mem_of_getElem? (i := 1394) (by decide +kernel), List.mem_of_getElem? (i := 1977) (by decide +kernel), List.mem_of_getElem? (i := 1978) (by decide +kernel)⟩
theorem lw_p120 : lw_okq (⟨"SchoolRidesModel", "onward", "(III)I"⟩, 105) := ⟨⟨by decide +kernel, by decide +kernel⟩, List.mem_of_getElem? (i := 1394) (by decide +kernel), List.mem_of_getElem? (i := 1985) (by decide +kernel), List.mem_of_getElem? (i := 1986) (by decide +kernel)⟩
theorem lw_p121 : lw_okq (⟨"SchoolRidesModel", "rightOf", "(III)I"⟩, 105) := ⟨⟨by decide +kernel, by decide +kernel⟩, List.mem_of_getElem? (i := 1394) (by decide +kernel), List.mem_of_getElem? (i := 1993) (by decide +kernel), List.mem_of_getElem? (i := 1994) (by decide +kernel)⟩
theorem lw_p122 : lw_okq (⟨"SchoolRidesModel", "isHeld", "(II)Z"⟩, 105) := ⟨⟨by decide +kernel, by decide +kernel⟩, List.mem_of_getElem? (i := 1394) (by decide +kernel), List.mem_of_getElem? (i := 1997) (by decide +kernel), List.mem_of_getElem? (i := 1998) (by decide +kernel)⟩
theorem lw_p123 : lw_okq (⟨"SchoolRidesModel", "isLit", "(I)Z"⟩, 105) := ⟨⟨by decide +kernel, by decide +kernel⟩, List.mem_of_getElem? (i := 1394) (by decide +kernel), List.mem_of_getElem? (i := 2001) (by decide +kernel), List.mem_of_getElem? (i := 2002) (by decide +kernel)⟩
theorem lw_p124 : lw_okq (⟨"SchoolRidesModel", "sum", "(II)I"⟩, 105) := ⟨⟨by decide +kernel, by decide +kernel⟩, List.mem_of_getElem? (i := 1394) (by decide +kernel), List.mem_of_getElem? (i := 2005) (by decide +kernel), List.mem_of_getElem? (i := 2006) (by decide +kernel)⟩
theorem lw_p125 : lw_okq (⟨"SchoolRidesModel", "stopOf", "(III)I"⟩, 105) := ⟨⟨by decide +kernel, by decide +kernel⟩, List.mem_of_getElem? (i := 1394) (by decide +kernel), List.mem_of_getElem? (i := 2017) (by decide +kernel), List.mem_of_getElem? (i := 2018) (by decide +kernel)⟩
theorem lw_p126 : lw_okq (⟨"SchoolRidesModel", "isSchool", "(III)Z"⟩, 105) := ⟨⟨by decide +kernel, by decide +kernel⟩, List.mem_of_getElem? (i := 1394) (by decide +kernel), List.mem_of_getElem? (i := 2025) (by decide +kernel), List.mem_of_getElem? (i := 2026) (by decide +kernel)⟩
theorem lw_p127 : lw_okq (⟨"SchoolRidesModel", "riders", "(III)V"⟩, 105) := ⟨⟨by decide +kernel, by decide +kernel⟩, List.mem_of_getElem? (i := 1394) (by decide +kernel), List.mem_of_getElem? (i := 2029) (by decide +kernel), List.mem_of_getElem? (i := 2030) (by decide +kernel)⟩
def lw_privs_8 : List (MethodName × Nat) := [(⟨"SchoolRidesModel", "isLive", "(II)Z"⟩, 105), (⟨"SchoolRidesModel", "isDist", "(IIIII)Z"⟩, 105), (⟨"SchoolRidesModel", "isDay", "(II)Z"⟩, 105), (⟨"SchoolRidesModel", "lay", "(II)V"⟩, 105), (⟨"SchoolRidesModel", "isOpen", "(II)Z"⟩, 105), (⟨"SchoolRidesModel", "weightOf", "(II)I"⟩, 105), (⟨"SchoolRidesModel", "join", "(IIII)V"⟩, 105), (⟨"SchoolRidesModel", "leastOf", "(III)I"⟩, 105), (⟨"SchoolRidesModel", "onward", "(III)I"⟩, 105), (⟨"SchoolRidesModel", "rightOf", "(III)I"⟩, 105), (⟨"SchoolRidesModel", "isHeld", "(II)Z"⟩, 105), (⟨"SchoolRidesModel", "isLit", "(I)Z"⟩, 105), (⟨"SchoolRidesModel", "sum", "(II)I"⟩, 105), (⟨"SchoolRidesModel", "stopOf", "(III)I"⟩, 105), (⟨"SchoolRidesModel", "isSchool", "(III)Z"⟩, 105), (⟨"SchoolRidesModel", "riders", "(III)V"⟩, 105)]
theorem lw_r8 : ∀ q ∈ lw_privs_8, lw_okq q := List.forall_mem_cons.mpr ⟨lw_p112, List.forall_mem_cons.mpr ⟨lw_p113, List.forall_mem_cons.mpr ⟨lw_p114, List.forall_mem_cons.mpr ⟨lw_p115, List.forall_mem_cons.mpr ⟨lw_p116, List.forall_mem_cons.mpr ⟨lw_p117, List.forall_mem_cons.mpr ⟨lw_p118, List.forall_mem_cons.mpr ⟨lw_p119, List.forall_mem_cons.mpr ⟨lw_p120, List.forall_mem_cons.mpr ⟨lw_p121, List.forall_mem_cons.mpr ⟨lw_p122, List.forall_mem_cons.mpr ⟨lw_p123, List.forall_mem_cons.mpr ⟨lw_p124, List.forall_mem_cons.mpr ⟨lw_p125, List.forall_mem_cons.mpr ⟨lw_p126, List.forall_mem_cons.mpr ⟨lw_p127, fun _ h => absurd h List.not_mem_nil⟩⟩⟩⟩⟩⟩⟩⟩⟩⟩⟩⟩⟩⟩⟩⟩
theorem lw_p128 : lw_okq (⟨"SchoolRidesModel", "isSet", "(IIII)Z"⟩, 105) := ⟨⟨by decide +kernel, by decide +kernel⟩, List.mem_of_getElem? (i := 1394) (by decide +kernel), List.mem_of_getElem? (i := 2037) (by decide +kernel), List.mem_of_getElem? (i := 2038) (by decide +kernel)⟩
theorem lw_p129 : lw_okq (⟨"SchoolRidesModel", "laid", "(I)V"⟩, 105) := ⟨⟨by decide +kernel, by decide +kernel⟩, List.mem_of_getElem? (i := 1394) (by decide +kernel), List.mem_of_getElem? (i := 2041) (by decide +kernel), List.mem_of_getElem? (i := 2042) (by decide +kernel)⟩
theorem lw_p130 : lw_okq (⟨"SchoolRidesModel", "driven", "(I)I"⟩, 105) := ⟨⟨by decide +kernel, by decide +kernel⟩, List.mem_of_getElem? (i := 1394) (by decide +kernel), List.mem_of_getElem? (i := 2045) (by decide +kernel), List.mem_of_getElem? (i := 2046) (by decide +kernel)⟩
theorem lw_p131 : lw_okq (⟨"SchoolRidesModel", "placeOfStop", "(I)I"⟩, 105) := ⟨⟨by decide +kernel, by decide +kernel⟩, List.mem_of_getElem? (i := 1394) (by decide +kernel), List.mem_of_getElem? (i := 2049) (by decide +kernel), List.mem_of_getElem? (i := 2050) (by decide +kernel)⟩
theorem lw_p132 : lw_okq (⟨"SchoolRidesModel", "placeOfSchool", "(I)I"⟩, 105) := ⟨⟨by decide +kernel, by decide +kernel⟩, List.mem_of_getElem? (i := 1394) (by decide +kernel), List.mem_of_getElem? (i := 2053) (by decide +kernel), List.mem_of_getElem? (i := 2054) (by decide +kernel)⟩
theorem lw_p133 : lw_okq (⟨"SchoolRidesModel", "reorders", "(I)Z"⟩, 105) := ⟨⟨by decide +kernel, by decide +kernel⟩, List.mem_of_getElem? (i := 1394) (by decide +kernel), List.mem_of_getElem? (i := 2057) (by decide +kernel), List.mem_of_getElem? (i := 2058) (by decide +kernel)⟩
theorem lw_p134 : lw_okq (⟨"SchoolRidesModel", "turn", "(II)V"⟩, 105) := ⟨⟨by decide +kernel, by decide +kernel⟩, List.mem_of_getElem? (i := 1394) (by decide +kernel), List.mem_of_getElem? (i := 2061) (by decide +kernel), List.mem_of_getElem? (i := 2062) (by decide +kernel)⟩
theorem lw_p135 : lw_okq (⟨"SchoolRidesModel", "judge", "(I)V"⟩, 105) := ⟨⟨by decide +kernel, by decide +kernel⟩, List.mem_of_getElem? (i := 1394) (by decide +kernel), List.mem_of_getElem? (i := 2077) (by decide +kernel), List.mem_of_getElem? (i := 2078) (by decide +kernel)⟩
theorem lw_p136 : lw_okq (⟨"SchoolRidesModel", "planOf", "(III)I"⟩, 105) := ⟨⟨by decide +kernel, by decide +kernel⟩, List.mem_of_getElem? (i := 1394) (by decide +kernel), List.mem_of_getElem? (i := 2085) (by decide +kernel), List.mem_of_getElem? (i := 2086) (by decide +kernel)⟩
theorem lw_p137 : lw_okq (⟨"SchoolRidesModel", "allRoutes", "(III)V"⟩, 105) := ⟨⟨by decide +kernel, by decide +kernel⟩, List.mem_of_getElem? (i := 1394) (by decide +kernel), List.mem_of_getElem? (i := 2089) (by decide +kernel), List.mem_of_getElem? (i := 2090) (by decide +kernel)⟩
theorem lw_p138 : lw_okq (⟨"SchoolRidesModel", "plans", "()Z"⟩, 105) := ⟨⟨by decide +kernel, by decide +kernel⟩, List.mem_of_getElem? (i := 1394) (by decide +kernel), List.mem_of_getElem? (i := 2093) (by decide +kernel), List.mem_of_getElem? (i := 2094) (by decide +kernel)⟩
theorem lw_p139 : lw_okq (⟨"SchoolRidesModel", "ridden", "()I"⟩, 105) := ⟨⟨by decide +kernel, by decide +kernel⟩, List.mem_of_getElem? (i := 1394) (by decide +kernel), List.mem_of_getElem? (i := 2097) (by decide +kernel), List.mem_of_getElem? (i := 2098) (by decide +kernel)⟩
theorem lw_p140 : lw_okq (⟨"SchoolRidesModel", "taxi", "(I)I"⟩, 105) := ⟨⟨by decide +kernel, by decide +kernel⟩, List.mem_of_getElem? (i := 1394) (by decide +kernel), List.mem_of_getElem? (i := 2104) (by decide +kernel), List.mem_of_getElem? (i := 2105) (by decide +kernel)⟩
theorem lw_p141 : lw_okq (⟨"SchoolRidesModel", "offer", "(IIII)V"⟩, 105) := ⟨⟨by decide +kernel, by decide +kernel⟩, List.mem_of_getElem? (i := 1394) (by decide +kernel), List.mem_of_getElem? (i := 2108) (by decide +kernel), List.mem_of_getElem? (i := 2109) (by decide +kernel)⟩
theorem lw_p142 : lw_okq (⟨"SchoolRidesModel", "chosen", "(I)I"⟩, 105) := ⟨⟨by decide +kernel, by decide +kernel⟩, List.mem_of_getElem? (i := 1394) (by decide +kernel), List.mem_of_getElem? (i := 2112) (by decide +kernel), List.mem_of_getElem? (i := 2113) (by decide +kernel)⟩
theorem lw_p143 : lw_okq (⟨"SchoolRidesModel", "isBest", "(IIII)Z"⟩, 105) := ⟨⟨by decide +kernel, by decide +kernel⟩, List.mem_of_getElem? (i := 1394) (by decide +kernel), List.mem_of_getElem? (i := 2116) (by decide +kernel), List.mem_of_getElem? (i := 2117) (by decide +kernel)⟩
def lw_privs_9 : List (MethodName × Nat) := [(⟨"SchoolRidesModel", "isSet", "(IIII)Z"⟩, 105), (⟨"SchoolRidesModel", "laid", "(I)V"⟩, 105), (⟨"SchoolRidesModel", "driven", "(I)I"⟩, 105), (⟨"SchoolRidesModel", "placeOfStop", "(I)I"⟩, 105), (⟨"SchoolRidesModel", "placeOfSchool", "(I)I"⟩, 105), (⟨"SchoolRidesModel", "reorders", "(I)Z"⟩, 105), (⟨"SchoolRidesModel", "turn", "(II)V"⟩, 105), (⟨"SchoolRidesModel", "judge", "(I)V"⟩, 105), (⟨"SchoolRidesModel", "planOf", "(III)I"⟩, 105), (⟨"SchoolRidesModel", "allRoutes", "(III)V"⟩, 105), (⟨"SchoolRidesModel", "plans", "()Z"⟩, 105), (⟨"SchoolRidesModel", "ridden", "()I"⟩, 105), (⟨"SchoolRidesModel", "taxi", "(I)I"⟩, 105), (⟨"SchoolRidesModel", "offer", "(IIII)V"⟩, 105), (⟨"SchoolRidesModel", "chosen", "(I)I"⟩, 105), (⟨"SchoolRidesModel", "isBest", "(IIII)Z"⟩, 105)]
theorem lw_r9 : ∀ q ∈ lw_privs_9, lw_okq q := List.forall_mem_cons.mpr ⟨lw_p128, List.forall_mem_cons.mpr ⟨lw_p129, List.forall_mem_cons.mpr ⟨lw_p130, List.forall_mem_cons.mpr ⟨lw_p131, List.forall_mem_cons.mpr ⟨lw_p132, List.forall_mem_cons.mpr ⟨lw_p133, List.forall_mem_cons.mpr ⟨lw_p134, List.forall_mem_cons.mpr ⟨lw_p135, List.forall_mem_cons.mpr ⟨lw_p136, List.forall_mem_cons.mpr ⟨lw_p137, List.forall_mem_cons.mpr ⟨lw_p138, List.forall_mem_cons.mpr ⟨lw_p139, List.forall_mem_cons.mpr ⟨lw_p140, List.forall_mem_cons.mpr ⟨lw_p141, List.forall_mem_cons.mpr ⟨lw_p142, List.forall_mem_cons.mpr ⟨lw_p143, fun _ h => absurd h List.not_mem_nil⟩⟩⟩⟩⟩⟩⟩⟩⟩⟩⟩⟩⟩⟩⟩⟩
theorem lw_p144 : lw_okq (⟨"SchoolRidesModel", "collects", "(II)Z"⟩, 105) := ⟨⟨by decide +kernel, by decide +kernel⟩, List.mem_of_getElem? (i := 1394) (by decide +kernel), List.mem_of_getElem? (i := 2140) (by decide +kernel), List.mem_of_getElem? (i := 2141) (by decide +kernel)⟩
theorem lw_p145 : lw_okq (⟨"SchoolRidesModel", "busesOf", "()I"⟩, 105) := ⟨⟨by decide +kernel, by decide +kernel⟩, List.mem_of_getElem? (i := 1394) (by decide +kernel), List.mem_of_getElem? (i := 2144) (by decide +kernel), List.mem_of_getElem? (i := 2145) (by decide +kernel)⟩
theorem lw_p146 : lw_okq (⟨"SchoolRidesModel", "finds", "(I)Z"⟩, 105) := ⟨⟨by decide +kernel, by decide +kernel⟩, List.mem_of_getElem? (i := 1394) (by decide +kernel), List.mem_of_getElem? (i := 2148) (by decide +kernel), List.mem_of_getElem? (i := 2149) (by decide +kernel)⟩
theorem lw_p147 : lw_okq (⟨"SchoolRidesModel", "isBehind", "(II)Z"⟩, 105) := ⟨⟨by decide +kernel, by decide +kernel⟩, List.mem_of_getElem? (i := 1394) (by decide +kernel), List.mem_of_getElem? (i := 2152) (by decide +kernel), List.mem_of_getElem? (i := 2153) (by decide +kernel)⟩
theorem lw_p148 : lw_okq (⟨"SchoolRidesModel", "bellOf", "(I)I"⟩, 105) := ⟨⟨by decide +kernel, by decide +kernel⟩, List.mem_of_getElem? (i := 1394) (by decide +kernel), List.mem_of_getElem? (i := 2156) (by decide +kernel), List.mem_of_getElem? (i := 2157) (by decide +kernel)⟩
theorem lw_p149 : lw_okq (⟨"SchoolRidesModel", "shiftedFleet", "(II)I"⟩, 105) := ⟨⟨by decide +kernel, by decide +kernel⟩, List.mem_of_getElem? (i := 1394) (by decide +kernel), List.mem_of_getElem? (i := 2164) (by decide +kernel), List.mem_of_getElem? (i := 2165) (by decide +kernel)⟩
theorem lw_p150 : lw_okq (⟨"SchoolRidesModel", "isBid", "(III)Z"⟩, 105) := ⟨⟨by decide +kernel, by decide +kernel⟩, List.mem_of_getElem? (i := 1394) (by decide +kernel), List.mem_of_getElem? (i := 2183) (by decide +kernel), List.mem_of_getElem? (i := 2184) (by decide +kernel)⟩
theorem lw_p151 : lw_okq (⟨"SchoolRidesModel", "covers", "(I)V"⟩, 105) := ⟨⟨by decide +kernel, by decide +kernel⟩, List.mem_of_getElem? (i := 1394) (by decide +kernel), List.mem_of_getElem? (i := 2208) (by decide +kernel), List.mem_of_getElem? (i := 2209) (by decide +kernel)⟩
theorem lw_p152 : lw_okq (⟨"SchoolRidesModel", "mayDrive", "(III)Z"⟩, 105) := ⟨⟨by decide +kernel, by decide +kernel⟩, List.mem_of_getElem? (i := 1394) (by decide +kernel), List.mem_of_getElem? (i := 2212) (by decide +kernel), List.mem_of_getElem? (i := 2213) (by decide +kernel)⟩
theorem lw_p153 : lw_okq (⟨"SchoolRidesModel", "snow", "(I)V"⟩, 105) := ⟨⟨by decide +kernel, by decide +kernel⟩, List.mem_of_getElem? (i := 1394) (by decide +kernel), List.mem_of_getElem? (i := 2228) (by decide +kernel), List.mem_of_getElem? (i := 2229) (by decide +kernel)⟩
theorem lw_p154 : lw_okq (⟨"SchoolRidesModel", "lend", "(II)V"⟩, 105) := ⟨⟨by decide +kernel, by decide +kernel⟩, List.mem_of_getElem? (i := 1394) (by decide +kernel), List.mem_of_getElem? (i := 2240) (by decide +kernel), List.mem_of_getElem? (i := 2241) (by decide +kernel)⟩
theorem lw_p155 : lw_okq (⟨"SchoolRidesModel", "isLent", "(III)Z"⟩, 105) := ⟨⟨by decide +kernel, by decide +kernel⟩, List.mem_of_getElem? (i := 1394) (by decide +kernel), List.mem_of_getElem? (i := 2244) (by decide +kernel), List.mem_of_getElem? (i := 2245) (by decide +kernel)⟩
theorem lw_p156 : lw_okq (⟨"SchoolRidesModel", "countOf", "(I)I"⟩, 105) := ⟨⟨by decide +kernel, by decide +kernel⟩, List.mem_of_getElem? (i := 1394) (by decide +kernel), List.mem_of_getElem? (i := 2256) (by decide +kernel), List.mem_of_getElem? (i := 2257) (by decide +kernel)⟩
def lw_privs_10 : List (MethodName × Nat) := [(⟨"SchoolRidesModel", "collects", "(II)Z"⟩, 105), (⟨"SchoolRidesModel", "busesOf", "()I"⟩, 105), (⟨"SchoolRidesModel", "finds", "(I)Z"⟩, 105), (⟨"SchoolRidesModel", "isBehind", "(II)Z"⟩, 105), (⟨"SchoolRidesModel", "bellOf", "(I)I"⟩, 105), (⟨"SchoolRidesModel", "shiftedFleet", "(II)I"⟩, 105), (⟨"SchoolRidesModel", "isBid", "(III)Z"⟩, 105), (⟨"SchoolRidesModel", "covers", "(I)V"⟩, 105), (⟨"SchoolRidesModel", "mayDrive", "(III)Z"⟩, 105), (⟨"SchoolRidesModel", "snow", "(I)V"⟩, 105), (⟨"SchoolRidesModel", "lend", "(II)V"⟩, 105), (⟨"SchoolRidesModel", "isLent", "(III)Z"⟩, 105), (⟨"SchoolRidesModel", "countOf", "(I)I"⟩, 105)]
theorem lw_r10 : ∀ q ∈ lw_privs_10, lw_okq q := List.forall_mem_cons.mpr ⟨lw_p144, List.forall_mem_cons.mpr ⟨lw_p145, List.forall_mem_cons.mpr ⟨lw_p146, List.forall_mem_cons.mpr ⟨lw_p147, List.forall_mem_cons.mpr ⟨lw_p148, List.forall_mem_cons.mpr ⟨lw_p149, List.forall_mem_cons.mpr ⟨lw_p150, List.forall_mem_cons.mpr ⟨lw_p151, List.forall_mem_cons.mpr ⟨lw_p152, List.forall_mem_cons.mpr ⟨lw_p153, List.forall_mem_cons.mpr ⟨lw_p154, List.forall_mem_cons.mpr ⟨lw_p155, List.forall_mem_cons.mpr ⟨lw_p156, fun _ h => absurd h List.not_mem_nil⟩⟩⟩⟩⟩⟩⟩⟩⟩⟩⟩⟩⟩
def lw_privs : List (MethodName × Nat) := lw_privs_1 ++ (lw_privs_2 ++ (lw_privs_3 ++ (lw_privs_4 ++ (lw_privs_5 ++ (lw_privs_6 ++ (lw_privs_7 ++ (lw_privs_8 ++ (lw_privs_9 ++ (lw_privs_10)))))))))
def lw_tbl : List Cond := k2_sels lw_privs ++ tables_1
theorem lw_privs_ok : ∀ q ∈ lw_privs, lw_okq q := by
  show ∀ q ∈ lw_privs_1 ++ (lw_privs_2 ++ (lw_privs_3 ++ (lw_privs_4 ++ (lw_privs_5 ++ (lw_privs_6 ++ (lw_privs_7 ++ (lw_privs_8 ++ (lw_privs_9 ++ (lw_privs_10))))))))), lw_okq q
  exact List.forall_mem_append.mpr ⟨lw_r1, List.forall_mem_append.mpr ⟨lw_r2, List.forall_mem_append.mpr ⟨lw_r3, List.forall_mem_append.mpr ⟨lw_r4, List.forall_mem_append.mpr ⟨lw_r5, List.forall_mem_append.mpr ⟨lw_r6, List.forall_mem_append.mpr ⟨lw_r7, List.forall_mem_append.mpr ⟨lw_r8, List.forall_mem_append.mpr ⟨lw_r9, lw_r10⟩⟩⟩⟩⟩⟩⟩⟩⟩
/-! ===== BEGIN printed: names, fields, word lists, decode rows ===== -/
def RX0 : String := "SchoolRides$Crew"
def TX0 : u_T := fun k => match k with
  | 0 => ("SchoolRides$Crew", "total", "I", false)
  | 1 => ("SchoolRides$Crew", "driverOf", "[I", true)
  | 2 => ("SchoolRides$Crew", "sets", "[I", true)
  | 3 => ("SchoolRides$Crew", "isAway", "[Z", true)
  | 4 => ("SchoolRides$Crew", "weights", "[I", true)
  | 5 => ("SchoolRides$Crew", "left", "[I", true)
  | _ => ("SchoolRides$Crew", "solvedRoutes", "I", false)
def tyX0 : Nat → FieldType := fun k => match k with
  | 0 => .int
  | 1 => .array .int
  | 2 => .array .int
  | 3 => .array .boolean
  | 4 => .array .int
  | 5 => .array .int
  | _ => .int
abbrev wsX00 : List Cond := u_ws RX0 TX0 7
theorem nmX0 : ∀ a, a < 7 → ∀ b, b < 7 → a ≠ b → (TX0 a).2.1 ≠ (TX0 b).2.1 := by decide +kernel
theorem tyX0_ok : ∀ k, k < 7 → parseFieldDescriptor (TX0 k).2.2.1 = some (tyX0 k) := by decide +kernel
abbrev cX0_init : ByteArray := prog_2_method_1_code
def yX0_init : MethodName := ⟨RX0, "<init>", "()V"⟩
abbrev cX0_add : ByteArray := prog_2_method_2_code
def yX0_add : MethodName := ⟨RX0, "add", "(I)I"⟩
abbrev cX0_setAway : ByteArray := prog_2_method_3_code
def yX0_setAway : MethodName := ⟨RX0, "setAway", "(IZ)V"⟩
abbrev cX0_setWeight : ByteArray := prog_2_method_4_code
def yX0_setWeight : MethodName := ⟨RX0, "setWeight", "(II)V"⟩
abbrev cX0_solve : ByteArray := prog_2_method_5_code
def yX0_solve : MethodName := ⟨RX0, "solve", "(I)V"⟩
abbrev cX0_canDrive : ByteArray := prog_2_method_6_code
def yX0_canDrive : MethodName := ⟨RX0, "canDrive", "(III)Z"⟩
abbrev cX0_leastFrom : ByteArray := prog_2_method_7_code
def yX0_leastFrom : MethodName := ⟨RX0, "leastFrom", "(II)I"⟩
abbrev cX0_listDrivers : ByteArray := prog_2_method_8_code
def yX0_listDrivers : MethodName := ⟨RX0, "listDrivers", "(I)V"⟩
abbrev cX0_firstDriver : ByteArray := prog_2_method_9_code
def yX0_firstDriver : MethodName := ⟨RX0, "firstDriver", "(II)I"⟩
abbrev cX0_leastLeft : ByteArray := prog_2_method_10_code
def yX0_leastLeft : MethodName := ⟨RX0, "leastLeft", "()I"⟩
def RX1 : String := "SchoolRides$Facts"
def TX1 : u_T := fun k => match k with
  | 0 => ("SchoolRides$Facts", "total", "I", false)
  | 1 => ("SchoolRides$Facts", "children", "I", false)
  | 2 => ("SchoolRides$Facts", "first", "[I", true)
  | 3 => ("SchoolRides$Facts", "second", "[I", true)
  | 4 => ("SchoolRides$Facts", "third", "[I", true)
  | 5 => ("SchoolRides$Facts", "fourth", "[I", true)
  | 6 => ("SchoolRides$Facts", "childFacts", "[I", true)
  | 7 => ("SchoolRides$Facts", "kinds", "[I", true)
  | _ => ("SchoolRides$Facts", "voidedAt", "[I", true)
def tyX1 : Nat → FieldType := fun k => match k with
  | 0 => .int
  | 1 => .int
  | 2 => .array .int
  | 3 => .array .int
  | 4 => .array .int
  | 5 => .array .int
  | 6 => .array .int
  | 7 => .array .int
  | _ => .array .int
abbrev wsX10 : List Cond := u_ws RX1 TX1 9
theorem nmX1 : ∀ a, a < 9 → ∀ b, b < 9 → a ≠ b → (TX1 a).2.1 ≠ (TX1 b).2.1 := by decide +kernel
theorem tyX1_ok : ∀ k, k < 9 → parseFieldDescriptor (TX1 k).2.2.1 = some (tyX1 k) := by decide +kernel
abbrev cX1_init : ByteArray := prog_3_method_1_code
def yX1_init : MethodName := ⟨RX1, "<init>", "()V"⟩
abbrev cX1_add : ByteArray := prog_3_method_2_code
def yX1_add : MethodName := ⟨RX1, "add", "(IIIII)I"⟩
abbrev cX1_addChild : ByteArray := prog_3_method_3_code
def yX1_addChild : MethodName := ⟨RX1, "addChild", "(IIII)I"⟩
abbrev cX1_addVoid : ByteArray := prog_3_method_4_code
def yX1_addVoid : MethodName := ⟨RX1, "addVoid", "(I)I"⟩
abbrev cX1_isKnown : ByteArray := prog_3_method_5_code
def yX1_isKnown : MethodName := ⟨RX1, "isKnown", "(III)Z"⟩
abbrev cX1_childrenKnown : ByteArray := prog_3_method_6_code
def yX1_childrenKnown : MethodName := ⟨RX1, "childrenKnown", "(I)I"⟩
abbrev cX1_homeOf : ByteArray := prog_3_method_7_code
def yX1_homeOf : MethodName := ⟨RX1, "homeOf", "(III)I"⟩
abbrev cX1_latestMove : ByteArray := prog_3_method_8_code
def yX1_latestMove : MethodName := ⟨RX1, "latestMove", "(IIII)I"⟩
abbrev cX1_areAlikeTaps : ByteArray := prog_3_method_9_code
def yX1_areAlikeTaps : MethodName := ⟨RX1, "areAlikeTaps", "(III)Z"⟩
def RX2 : String := "SchoolRides$Fleet"
def TX2 : u_T := fun k => match k with
  | 0 => ("SchoolRides$Fleet", "stamp", "I", false)
  | 1 => ("SchoolRides$Fleet", "leastBuses", "I", false)
  | 2 => ("SchoolRides$Fleet", "bestPuts", "[I", true)
  | 3 => ("SchoolRides$Fleet", "total", "I", false)
  | 4 => ("SchoolRides$Fleet", "schools", "I", false)
  | 5 => ("SchoolRides$Fleet", "shiftsAreFound", "Z", false)
  | 6 => ("SchoolRides$Fleet", "schoolOf", "[I", true)
  | 7 => ("SchoolRides$Fleet", "firstPlaces", "[I", true)
  | 8 => ("SchoolRides$Fleet", "spans", "[I", true)
  | 9 => ("SchoolRides$Fleet", "schoolPlaces", "[I", true)
  | 10 => ("SchoolRides$Fleet", "bells", "[I", true)
  | 11 => ("SchoolRides$Fleet", "puts", "[I", true)
  | 12 => ("SchoolRides$Fleet", "followersByPut", "[I", true)
  | 13 => ("SchoolRides$Fleet", "followers", "[I", true)
  | 14 => ("SchoolRides$Fleet", "nextOf", "[I", true)
  | 15 => ("SchoolRides$Fleet", "aheadOf", "[I", true)
  | 16 => ("SchoolRides$Fleet", "reachedFrom", "[I", true)
  | _ => ("SchoolRides$Fleet", "queue", "[I", true)
def tyX2 : Nat → FieldType := fun k => match k with
  | 0 => .int
  | 1 => .int
  | 2 => .array .int
  | 3 => .int
  | 4 => .int
  | 5 => .boolean
  | 6 => .array .int
  | 7 => .array .int
  | 8 => .array .int
  | 9 => .array .int
  | 10 => .array .int
  | 11 => .array .int
  | 12 => .array .int
  | 13 => .array .int
  | 14 => .array .int
  | 15 => .array .int
  | 16 => .array .int
  | _ => .array .int
abbrev wsX20 : List Cond := u_ws RX2 TX2 18
theorem nmX2 : ∀ a, a < 18 → ∀ b, b < 18 → a ≠ b → (TX2 a).2.1 ≠ (TX2 b).2.1 := by decide +kernel
theorem tyX2_ok : ∀ k, k < 18 → parseFieldDescriptor (TX2 k).2.2.1 = some (tyX2 k) := by decide +kernel
abbrev cX2_init : ByteArray := prog_4_method_1_code
def yX2_init : MethodName := ⟨RX2, "<init>", "()V"⟩
abbrev cX2_clear : ByteArray := prog_4_method_2_code
def yX2_clear : MethodName := ⟨RX2, "clear", "(ILSchoolRides$Text;)V"⟩
abbrev cX2_addRoutes : ByteArray := prog_4_method_3_code
def yX2_addRoutes : MethodName := ⟨RX2, "addRoutes", "(LSchoolRides$Plan;ILSchoolRides$Text;)V"⟩
abbrev cX2_measure : ByteArray := prog_4_method_4_code
def yX2_measure : MethodName := ⟨RX2, "measure", "(LSchoolRides$View;)V"⟩
abbrev cX2_noteFollower : ByteArray := prog_4_method_5_code
def yX2_noteFollower : MethodName := ⟨RX2, "noteFollower", "(III)V"⟩
abbrev cX2_busesUnshifted : ByteArray := prog_4_method_6_code
def yX2_busesUnshifted : MethodName := ⟨RX2, "busesUnshifted", "()I"⟩
abbrev cX2_findShifts : ByteArray := prog_4_method_7_code
def yX2_findShifts : MethodName := ⟨RX2, "findShifts", "()V"⟩
abbrev cX2_putBells : ByteArray := prog_4_method_8_code
def yX2_putBells : MethodName := ⟨RX2, "putBells", "(I)V"⟩
abbrev cX2_keepPuts : ByteArray := prog_4_method_9_code
def yX2_keepPuts : MethodName := ⟨RX2, "keepPuts", "()V"⟩
abbrev cX2_putsExistingAlone : ByteArray := prog_4_method_10_code
def yX2_putsExistingAlone : MethodName := ⟨RX2, "putsExistingAlone", "()Z"⟩
abbrev cX2_fewestBuses : ByteArray := prog_4_method_11_code
def yX2_fewestBuses : MethodName := ⟨RX2, "fewestBuses", "()I"⟩
abbrev cX2_followersOf : ByteArray := prog_4_method_12_code
def yX2_followersOf : MethodName := ⟨RX2, "followersOf", "(I)I"⟩
abbrev cX2_findFollower : ByteArray := prog_4_method_13_code
def yX2_findFollower : MethodName := ⟨RX2, "findFollower", "(I)Z"⟩
abbrev cX2_joinBack : ByteArray := prog_4_method_14_code
def yX2_joinBack : MethodName := ⟨RX2, "joinBack", "(I)V"⟩
def RX3 : String := "SchoolRides$Plan"
def TX3 : u_T := fun k => match k with
  | 0 => ("SchoolRides$Plan", "stamp", "I", false)
  | 1 => ("SchoolRides$Plan", "seats", "[I", true)
  | 2 => ("SchoolRides$Plan", "minutes", "[I", true)
  | 3 => ("SchoolRides$Plan", "isGood", "[Z", true)
  | 4 => ("SchoolRides$Plan", "routeTotal", "I", false)
  | 5 => ("SchoolRides$Plan", "routeSets", "[I", true)
  | 6 => ("SchoolRides$Plan", "taxiSet", "I", false)
  | 7 => ("SchoolRides$Plan", "riders", "[I", true)
  | 8 => ("SchoolRides$Plan", "served", "I", false)
  | 9 => ("SchoolRides$Plan", "nurseStops", "I", false)
  | 10 => ("SchoolRides$Plan", "apart", "[I", true)
  | 11 => ("SchoolRides$Plan", "toSchool", "[I", true)
  | 12 => ("SchoolRides$Plan", "legs", "[I", true)
  | 13 => ("SchoolRides$Plan", "sums", "[I", true)
  | 14 => ("SchoolRides$Plan", "pays", "[I", true)
  | 15 => ("SchoolRides$Plan", "counts", "[I", true)
  | 16 => ("SchoolRides$Plan", "choices", "[I", true)
  | _ => ("SchoolRides$Plan", "fews", "[I", true)
def tyX3 : Nat → FieldType := fun k => match k with
  | 0 => .int
  | 1 => .array .int
  | 2 => .array .int
  | 3 => .array .boolean
  | 4 => .int
  | 5 => .array .int
  | 6 => .int
  | 7 => .array .int
  | 8 => .int
  | 9 => .int
  | 10 => .array .int
  | 11 => .array .int
  | 12 => .array .int
  | 13 => .array .int
  | 14 => .array .int
  | 15 => .array .int
  | 16 => .array .int
  | _ => .array .int
abbrev wsX30 : List Cond := u_ws RX3 TX3 18
theorem nmX3 : ∀ a, a < 18 → ∀ b, b < 18 → a ≠ b → (TX3 a).2.1 ≠ (TX3 b).2.1 := by decide +kernel
theorem tyX3_ok : ∀ k, k < 18 → parseFieldDescriptor (TX3 k).2.2.1 = some (tyX3 k) := by decide +kernel
abbrev cX3_init : ByteArray := prog_5_method_1_code
def yX3_init : MethodName := ⟨RX3, "<init>", "()V"⟩
abbrev cX3_make : ByteArray := prog_5_method_2_code
def yX3_make : MethodName := ⟨RX3, "make", "(LSchoolRides$View;I)V"⟩
abbrev cX3_gatherRiders : ByteArray := prog_5_method_3_code
def yX3_gatherRiders : MethodName := ⟨RX3, "gatherRiders", "(LSchoolRides$View;I)V"⟩
abbrev cX3_gatherParted : ByteArray := prog_5_method_4_code
def yX3_gatherParted : MethodName := ⟨RX3, "gatherParted", "(LSchoolRides$View;I)V"⟩
abbrev cX3_riderStop : ByteArray := prog_5_method_5_code
def yX3_riderStop : MethodName := ⟨RX3, "riderStop", "(LSchoolRides$View;II)I"⟩
abbrev cX3_measure : ByteArray := prog_5_method_6_code
def yX3_measure : MethodName := ⟨RX3, "measure", "(LSchoolRides$View;I)V"⟩
abbrev cX3_findRoute : ByteArray := prog_5_method_7_code
def yX3_findRoute : MethodName := ⟨RX3, "findRoute", "(I)V"⟩
abbrev cX3_leastBehind : ByteArray := prog_5_method_8_code
def yX3_leastBehind : MethodName := ⟨RX3, "leastBehind", "(II)I"⟩
abbrev cX3_stopInRoute : ByteArray := prog_5_method_9_code
def yX3_stopInRoute : MethodName := ⟨RX3, "stopInRoute", "(II)I"⟩
abbrev cX3_firstWith : ByteArray := prog_5_method_10_code
def yX3_firstWith : MethodName := ⟨RX3, "firstWith", "(III)I"⟩
abbrev cX3_canBeGood : ByteArray := prog_5_method_11_code
def yX3_canBeGood : MethodName := ⟨RX3, "canBeGood", "(I[I)Z"⟩
abbrev cX3_payOf : ByteArray := prog_5_method_12_code
def yX3_payOf : MethodName := ⟨RX3, "payOf", "(I[I)I"⟩
abbrev cX3_choose : ByteArray := prog_5_method_13_code
def yX3_choose : MethodName := ⟨RX3, "choose", "(I[I)V"⟩
abbrev cX3_weighTaxi : ByteArray := prog_5_method_14_code
def yX3_weighTaxi : MethodName := ⟨RX3, "weighTaxi", "(III)V"⟩
abbrev cX3_weighRoute : ByteArray := prog_5_method_15_code
def yX3_weighRoute : MethodName := ⟨RX3, "weighRoute", "(III)V"⟩
abbrev cX3_listRoutes : ByteArray := prog_5_method_16_code
def yX3_listRoutes : MethodName := ⟨RX3, "listRoutes", "()V"⟩
abbrev cX3_hasPlan : ByteArray := prog_5_method_17_code
def yX3_hasPlan : MethodName := ⟨RX3, "hasPlan", "()Z"⟩
abbrev cX3_leastPay : ByteArray := prog_5_method_18_code
def yX3_leastPay : MethodName := ⟨RX3, "leastPay", "()I"⟩
abbrev cX3_fewestRoutes : ByteArray := prog_5_method_19_code
def yX3_fewestRoutes : MethodName := ⟨RX3, "fewestRoutes", "()I"⟩
def RX4 : String := "SchoolRides$Reader"
def TX4 : u_T := fun k => match k with
  | 0 => ("SchoolRides$Reader", "fault", "I", false)
  | 1 => ("SchoolRides$Reader", "faultPlace", "I", false)
  | 2 => ("SchoolRides$Reader", "tape", "LSchoolRides$Tape;", true)
  | 3 => ("SchoolRides$Reader", "at", "I", false)
  | 4 => ("SchoolRides$Reader", "lateFault", "I", false)
  | 5 => ("SchoolRides$Reader", "latePlace", "I", false)
  | 6 => ("SchoolRides$Reader", "names", "[J", true)
  | 7 => ("SchoolRides$Reader", "namePlaces", "[I", true)
  | 8 => ("SchoolRides$Reader", "nameCount", "I", false)
  | 9 => ("SchoolRides$Reader", "waiting", "[I", true)
  | 10 => ("SchoolRides$Reader", "waitingCount", "I", false)
  | 11 => ("SchoolRides$Reader", "operandIsDue", "Z", false)
  | 12 => ("SchoolRides$Reader", "mayNegate", "Z", false)
  | 13 => ("SchoolRides$Reader", "isLeftSide", "Z", false)
  | _ => ("SchoolRides$Reader", "depth", "I", false)
def tyX4 : Nat → FieldType := fun k => match k with
  | 0 => .int
  | 1 => .int
  | 2 => .object "SchoolRides$Tape"
  | 3 => .int
  | 4 => .int
  | 5 => .int
  | 6 => .array .long
  | 7 => .array .int
  | 8 => .int
  | 9 => .array .int
  | 10 => .int
  | 11 => .boolean
  | 12 => .boolean
  | 13 => .boolean
  | _ => .int
abbrev wsX40 : List Cond := u_ws RX4 TX4 15
theorem nmX4 : ∀ a, a < 15 → ∀ b, b < 15 → a ≠ b → (TX4 a).2.1 ≠ (TX4 b).2.1 := by decide +kernel
theorem tyX4_ok : ∀ k, k < 15 → parseFieldDescriptor (TX4 k).2.2.1 = some (tyX4 k) := by decide +kernel
abbrev cX4_init : ByteArray := prog_6_method_1_code
def yX4_init : MethodName := ⟨RX4, "<init>", "()V"⟩
abbrev cX4_readTape : ByteArray := prog_6_method_2_code
def yX4_readTape : MethodName := ⟨RX4, "readTape", "(LSchoolRides$Text;)V"⟩
abbrev cX4_readTell : ByteArray := prog_6_method_3_code
def yX4_readTell : MethodName := ⟨RX4, "readTell", "(LSchoolRides$Text;)V"⟩
abbrev cX4_readPlace : ByteArray := prog_6_method_4_code
def yX4_readPlace : MethodName := ⟨RX4, "readPlace", "(LSchoolRides$Text;)V"⟩
abbrev cX4_readWay : ByteArray := prog_6_method_5_code
def yX4_readWay : MethodName := ⟨RX4, "readWay", "(LSchoolRides$Text;)V"⟩
abbrev cX4_readSchool : ByteArray := prog_6_method_6_code
def yX4_readSchool : MethodName := ⟨RX4, "readSchool", "(LSchoolRides$Text;)V"⟩
abbrev cX4_readStop : ByteArray := prog_6_method_7_code
def yX4_readStop : MethodName := ⟨RX4, "readStop", "(LSchoolRides$Text;)V"⟩
abbrev cX4_readRule : ByteArray := prog_6_method_8_code
def yX4_readRule : MethodName := ⟨RX4, "readRule", "(LSchoolRides$Text;I)V"⟩
abbrev cX4_readBus : ByteArray := prog_6_method_9_code
def yX4_readBus : MethodName := ⟨RX4, "readBus", "(LSchoolRides$Text;)V"⟩
abbrev cX4_readRight : ByteArray := prog_6_method_10_code
def yX4_readRight : MethodName := ⟨RX4, "readRight", "(LSchoolRides$Text;)V"⟩
abbrev cX4_beginLiteral : ByteArray := prog_6_method_11_code
def yX4_beginLiteral : MethodName := ⟨RX4, "beginLiteral", "()V"⟩
abbrev cX4_readOperand : ByteArray := prog_6_method_12_code
def yX4_readOperand : MethodName := ⟨RX4, "readOperand", "(LSchoolRides$Text;)V"⟩
abbrev cX4_readOperator : ByteArray := prog_6_method_13_code
def yX4_readOperator : MethodName := ⟨RX4, "readOperator", "(LSchoolRides$Text;)Z"⟩
abbrev cX4_mayFollowOperand : ByteArray := prog_6_method_14_code
def yX4_mayFollowOperand : MethodName := ⟨RX4, "mayFollowOperand", "(I)Z"⟩
abbrev cX4_isComparison : ByteArray := prog_6_method_15_code
def yX4_isComparison : MethodName := ⟨RX4, "isComparison", "(I)Z"⟩
abbrev cX4_strengthOf : ByteArray := prog_6_method_16_code
def yX4_strengthOf : MethodName := ⟨RX4, "strengthOf", "(I)I"⟩
abbrev cX4_await : ByteArray := prog_6_method_17_code
def yX4_await : MethodName := ⟨RX4, "await", "(I)V"⟩
abbrev cX4_settle : ByteArray := prog_6_method_18_code
def yX4_settle : MethodName := ⟨RX4, "settle", "(LSchoolRides$Text;I)V"⟩
abbrev cX4_kindAhead : ByteArray := prog_6_method_19_code
def yX4_kindAhead : MethodName := ⟨RX4, "kindAhead", "()I"⟩
abbrev cX4_intAt : ByteArray := prog_6_method_20_code
def yX4_intAt : MethodName := ⟨RX4, "intAt", "(I)I"⟩
abbrev cX4_take : ByteArray := prog_6_method_21_code
def yX4_take : MethodName := ⟨RX4, "take", "(I)V"⟩
abbrev cX4_needRoom : ByteArray := prog_6_method_22_code
def yX4_needRoom : MethodName := ⟨RX4, "needRoom", "(II)V"⟩
abbrev cX4_fail : ByteArray := prog_6_method_23_code
def yX4_fail : MethodName := ⟨RX4, "fail", "(I)V"⟩
abbrev cX4_wrongIf : ByteArray := prog_6_method_24_code
def yX4_wrongIf : MethodName := ⟨RX4, "wrongIf", "(ZI)V"⟩
abbrev cX4_failLate : ByteArray := prog_6_method_25_code
def yX4_failLate : MethodName := ⟨RX4, "failLate", "(II)V"⟩
abbrev cX4_tellName : ByteArray := prog_6_method_26_code
def yX4_tellName : MethodName := ⟨RX4, "tellName", "(II)V"⟩
abbrev cX4_placeNamed : ByteArray := prog_6_method_27_code
def yX4_placeNamed : MethodName := ⟨RX4, "placeNamed", "(I)I"⟩
abbrev cX4_indexOfName : ByteArray := prog_6_method_28_code
def yX4_indexOfName : MethodName := ⟨RX4, "indexOfName", "(I)I"⟩
def RX5 : String := "SchoolRides$Snow"
def TX5 : u_T := fun k => match k with
  | 0 => ("SchoolRides$Snow", "total", "I", false)
  | 1 => ("SchoolRides$Snow", "times", "[I", true)
  | 2 => ("SchoolRides$Snow", "callers", "[I", true)
  | 3 => ("SchoolRides$Snow", "called", "[I", true)
  | 4 => ("SchoolRides$Snow", "delays", "[I", true)
  | _ => ("SchoolRides$Snow", "listMinutes", "[I", true)
def tyX5 : Nat → FieldType := fun k => match k with
  | 0 => .int
  | 1 => .array .int
  | 2 => .array .int
  | 3 => .array .int
  | 4 => .array .int
  | _ => .array .int
abbrev wsX50 : List Cond := u_ws RX5 TX5 6
theorem nmX5 : ∀ a, a < 6 → ∀ b, b < 6 → a ≠ b → (TX5 a).2.1 ≠ (TX5 b).2.1 := by decide +kernel
theorem tyX5_ok : ∀ k, k < 6 → parseFieldDescriptor (TX5 k).2.2.1 = some (tyX5 k) := by decide +kernel
abbrev cX5_init : ByteArray := prog_7_method_1_code
def yX5_init : MethodName := ⟨RX5, "<init>", "()V"⟩
abbrev cX5_add : ByteArray := prog_7_method_2_code
def yX5_add : MethodName := ⟨RX5, "add", "(III)I"⟩
abbrev cX5_spread : ByteArray := prog_7_method_3_code
def yX5_spread : MethodName := ⟨RX5, "spread", "(I)V"⟩
abbrev cX5_bestFirst : ByteArray := prog_7_method_4_code
def yX5_bestFirst : MethodName := ⟨RX5, "bestFirst", "()I"⟩
def RX6 : String := "SchoolRides$Tape"
def TX6 : u_T := fun k => match k with
  | 0 => ("SchoolRides$Tape", "bytes", "[I", true)
  | 1 => ("SchoolRides$Tape", "length", "I", false)
  | 2 => ("SchoolRides$Tape", "kinds", "[I", true)
  | 3 => ("SchoolRides$Tape", "starts", "[I", true)
  | 4 => ("SchoolRides$Tape", "values", "[J", true)
  | _ => ("SchoolRides$Tape", "words", "[J", true)
def tyX6 : Nat → FieldType := fun k => match k with
  | 0 => .array .int
  | 1 => .int
  | 2 => .array .int
  | 3 => .array .int
  | 4 => .array .long
  | _ => .array .long
abbrev wsX60 : List Cond := u_ws RX6 TX6 6
theorem nmX6 : ∀ a, a < 6 → ∀ b, b < 6 → a ≠ b → (TX6 a).2.1 ≠ (TX6 b).2.1 := by decide +kernel
theorem tyX6_ok : ∀ k, k < 6 → parseFieldDescriptor (TX6 k).2.2.1 = some (tyX6 k) := by decide +kernel
abbrev cX6_init : ByteArray := prog_8_method_1_code
def yX6_init : MethodName := ⟨RX6, "<init>", "()V"⟩
abbrev cX6_append : ByteArray := prog_8_method_2_code
def yX6_append : MethodName := ⟨RX6, "append", "(I)V"⟩
abbrev cX6_scan : ByteArray := prog_8_method_3_code
def yX6_scan : MethodName := ⟨RX6, "scan", "()V"⟩
abbrev cX6_byteAt : ByteArray := prog_8_method_4_code
def yX6_byteAt : MethodName := ⟨RX6, "byteAt", "(I)I"⟩
abbrev cX6_skipBlanks : ByteArray := prog_8_method_5_code
def yX6_skipBlanks : MethodName := ⟨RX6, "skipBlanks", "(I)I"⟩
abbrev cX6_scanToken : ByteArray := prog_8_method_6_code
def yX6_scanToken : MethodName := ⟨RX6, "scanToken", "(II)I"⟩
abbrev cX6_scanWord : ByteArray := prog_8_method_7_code
def yX6_scanWord : MethodName := ⟨RX6, "scanWord", "(II)I"⟩
abbrev cX6_scanInt : ByteArray := prog_8_method_8_code
def yX6_scanInt : MethodName := ⟨RX6, "scanInt", "(II)I"⟩
abbrev cX6_kindOfWord : ByteArray := prog_8_method_9_code
def yX6_kindOfWord : MethodName := ⟨RX6, "kindOfWord", "(J)I"⟩
abbrev cX6_kindOfSign : ByteArray := prog_8_method_10_code
def yX6_kindOfSign : MethodName := ⟨RX6, "kindOfSign", "(II)I"⟩
abbrev cX6_withLetter : ByteArray := prog_8_method_11_code
def yX6_withLetter : MethodName := ⟨RX6, "withLetter", "(JI)J"⟩
abbrev cX6_isBlank : ByteArray := prog_8_method_12_code
def yX6_isBlank : MethodName := ⟨RX6, "isBlank", "(I)Z"⟩
abbrev cX6_isLetter : ByteArray := prog_8_method_13_code
def yX6_isLetter : MethodName := ⟨RX6, "isLetter", "(I)Z"⟩
abbrev cX6_isDigit : ByteArray := prog_8_method_14_code
def yX6_isDigit : MethodName := ⟨RX6, "isDigit", "(I)Z"⟩
def RX7 : String := "SchoolRides$Tender"
def TX7 : u_T := fun k => match k with
  | 0 => ("SchoolRides$Tender", "total", "I", false)
  | 1 => ("SchoolRides$Tender", "sums", "[I", true)
  | 2 => ("SchoolRides$Tender", "firms", "[I", true)
  | 3 => ("SchoolRides$Tender", "sets", "[I", true)
  | 4 => ("SchoolRides$Tender", "prices", "[I", true)
  | 5 => ("SchoolRides$Tender", "choices", "[I", true)
  | 6 => ("SchoolRides$Tender", "isReached", "[Z", true)
  | 7 => ("SchoolRides$Tender", "solvedRoutes", "I", false)
  | _ => ("SchoolRides$Tender", "solvedWithout", "I", false)
def tyX7 : Nat → FieldType := fun k => match k with
  | 0 => .int
  | 1 => .array .int
  | 2 => .array .int
  | 3 => .array .int
  | 4 => .array .int
  | 5 => .array .int
  | 6 => .array .boolean
  | 7 => .int
  | _ => .int
abbrev wsX70 : List Cond := u_ws RX7 TX7 9
theorem nmX7 : ∀ a, a < 9 → ∀ b, b < 9 → a ≠ b → (TX7 a).2.1 ≠ (TX7 b).2.1 := by decide +kernel
theorem tyX7_ok : ∀ k, k < 9 → parseFieldDescriptor (TX7 k).2.2.1 = some (tyX7 k) := by decide +kernel
abbrev cX7_init : ByteArray := prog_9_method_1_code
def yX7_init : MethodName := ⟨RX7, "<init>", "()V"⟩
abbrev cX7_add : ByteArray := prog_9_method_2_code
def yX7_add : MethodName := ⟨RX7, "add", "(III)I"⟩
abbrev cX7_solve : ByteArray := prog_9_method_3_code
def yX7_solve : MethodName := ⟨RX7, "solve", "(II)V"⟩
abbrev cX7_markReached : ByteArray := prog_9_method_4_code
def yX7_markReached : MethodName := ⟨RX7, "markReached", "(II)V"⟩
abbrev cX7_fits : ByteArray := prog_9_method_5_code
def yX7_fits : MethodName := ⟨RX7, "fits", "(III)Z"⟩
abbrev cX7_choose : ByteArray := prog_9_method_6_code
def yX7_choose : MethodName := ⟨RX7, "choose", "(II)V"⟩
abbrev cX7_bidOn : ByteArray := prog_9_method_7_code
def yX7_bidOn : MethodName := ⟨RX7, "bidOn", "(II)I"⟩
def RX8 : String := "SchoolRides$Text"
def TX8 : u_T := fun k => match k with
  | 0 => ("SchoolRides$Text", "from", "I", false)
  | 1 => ("SchoolRides$Text", "places", "I", false)
  | 2 => ("SchoolRides$Text", "ways", "I", false)
  | 3 => ("SchoolRides$Text", "wayStarts", "[I", true)
  | 4 => ("SchoolRides$Text", "wayEnds", "[I", true)
  | 5 => ("SchoolRides$Text", "metres", "[I", true)
  | 6 => ("SchoolRides$Text", "minutes", "[I", true)
  | 7 => ("SchoolRides$Text", "badWays", "I", false)
  | 8 => ("SchoolRides$Text", "schools", "I", false)
  | 9 => ("SchoolRides$Text", "schoolPlaces", "[I", true)
  | 10 => ("SchoolRides$Text", "bells", "[I", true)
  | 11 => ("SchoolRides$Text", "stops", "I", false)
  | 12 => ("SchoolRides$Text", "stopPlaces", "[I", true)
  | 13 => ("SchoolRides$Text", "rights", "I", false)
  | 14 => ("SchoolRides$Text", "rightEnds", "[I", true)
  | 15 => ("SchoolRides$Text", "code", "[I", true)
  | 16 => ("SchoolRides$Text", "codeLength", "I", false)
  | 17 => ("SchoolRides$Text", "rules", "[I", true)
  | _ => ("SchoolRides$Text", "values", "[I", true)
def tyX8 : Nat → FieldType := fun k => match k with
  | 0 => .int
  | 1 => .int
  | 2 => .int
  | 3 => .array .int
  | 4 => .array .int
  | 5 => .array .int
  | 6 => .array .int
  | 7 => .int
  | 8 => .int
  | 9 => .array .int
  | 10 => .array .int
  | 11 => .int
  | 12 => .array .int
  | 13 => .int
  | 14 => .array .int
  | 15 => .array .int
  | 16 => .int
  | 17 => .array .int
  | _ => .array .int
abbrev wsX80 : List Cond := u_ws RX8 TX8 19
theorem nmX8 : ∀ a, a < 19 → ∀ b, b < 19 → a ≠ b → (TX8 a).2.1 ≠ (TX8 b).2.1 := by decide +kernel
theorem tyX8_ok : ∀ k, k < 19 → parseFieldDescriptor (TX8 k).2.2.1 = some (tyX8 k) := by decide +kernel
abbrev cX8_init : ByteArray := prog_10_method_1_code
def yX8_init : MethodName := ⟨RX8, "<init>", "()V"⟩
abbrev cX8_clear : ByteArray := prog_10_method_2_code
def yX8_clear : MethodName := ⟨RX8, "clear", "()V"⟩
abbrev cX8_addWay : ByteArray := prog_10_method_3_code
def yX8_addWay : MethodName := ⟨RX8, "addWay", "(IIIIZ)V"⟩
abbrev cX8_addSchool : ByteArray := prog_10_method_4_code
def yX8_addSchool : MethodName := ⟨RX8, "addSchool", "(II)V"⟩
abbrev cX8_addStop : ByteArray := prog_10_method_5_code
def yX8_addStop : MethodName := ⟨RX8, "addStop", "(I)V"⟩
abbrev cX8_addCode : ByteArray := prog_10_method_6_code
def yX8_addCode : MethodName := ⟨RX8, "addCode", "(I)V"⟩
abbrev cX8_endRight : ByteArray := prog_10_method_7_code
def yX8_endRight : MethodName := ⟨RX8, "endRight", "()V"⟩
abbrev cX8_firstRight : ByteArray := prog_10_method_8_code
def yX8_firstRight : MethodName := ⟨RX8, "firstRight", "([I)I"⟩
abbrev cX8_holds : ByteArray := prog_10_method_9_code
def yX8_holds : MethodName := ⟨RX8, "holds", "(II[I)Z"⟩
abbrev cX8_combine : ByteArray := prog_10_method_10_code
def yX8_combine : MethodName := ⟨RX8, "combine", "(III)I"⟩
def RX9 : String := "SchoolRides$View"
def TX9 : u_T := fun k => match k with
  | 0 => ("SchoolRides$View", "texts", "[LSchoolRides$Text;", true)
  | 1 => ("SchoolRides$View", "facts", "LSchoolRides$Facts;", true)
  | 2 => ("SchoolRides$View", "text", "LSchoolRides$Text;", false)
  | 3 => ("SchoolRides$View", "day", "I", false)
  | 4 => ("SchoolRides$View", "n", "I", false)
  | 5 => ("SchoolRides$View", "stamp", "I", false)
  | 6 => ("SchoolRides$View", "childrenKnown", "I", false)
  | 7 => ("SchoolRides$View", "rightOf", "[I", true)
  | 8 => ("SchoolRides$View", "stopOf", "[I", true)
  | 9 => ("SchoolRides$View", "textNumber", "I", false)
  | 10 => ("SchoolRides$View", "usableWays", "[I", true)
  | 11 => ("SchoolRides$View", "summed", "[I", true)
  | 12 => ("SchoolRides$View", "sums", "[I", true)
  | 13 => ("SchoolRides$View", "judged", "I", false)
  | _ => ("SchoolRides$View", "variables", "[I", true)
def tyX9 : Nat → FieldType := fun k => match k with
  | 0 => .array (.object "SchoolRides$Text")
  | 1 => .object "SchoolRides$Facts"
  | 2 => .object "SchoolRides$Text"
  | 3 => .int
  | 4 => .int
  | 5 => .int
  | 6 => .int
  | 7 => .array .int
  | 8 => .array .int
  | 9 => .int
  | 10 => .array .int
  | 11 => .array .int
  | 12 => .array .int
  | 13 => .int
  | _ => .array .int
abbrev wsX90 : List Cond := u_ws RX9 TX9 15
theorem nmX9 : ∀ a, a < 15 → ∀ b, b < 15 → a ≠ b → (TX9 a).2.1 ≠ (TX9 b).2.1 := by decide +kernel
theorem tyX9_ok : ∀ k, k < 15 → parseFieldDescriptor (TX9 k).2.2.1 = some (tyX9 k) := by decide +kernel
abbrev cX9_init : ByteArray := prog_11_method_1_code
def yX9_init : MethodName := ⟨RX9, "<init>", "()V"⟩
abbrev cX9_turn : ByteArray := prog_11_method_2_code
def yX9_turn : MethodName := ⟨RX9, "turn", "(III)V"⟩
abbrev cX9_findUsableWays : ByteArray := prog_11_method_3_code
def yX9_findUsableWays : MethodName := ⟨RX9, "findUsableWays", "()V"⟩
abbrev cX9_sumOf : ByteArray := prog_11_method_4_code
def yX9_sumOf : MethodName := ⟨RX9, "sumOf", "(III)I"⟩
abbrev cX9_findSums : ByteArray := prog_11_method_5_code
def yX9_findSums : MethodName := ⟨RX9, "findSums", "(II)V"⟩
abbrev cX9_placeInRow : ByteArray := prog_11_method_6_code
def yX9_placeInRow : MethodName := ⟨RX9, "placeInRow", "(IIII)I"⟩
abbrev cX9_nextPlace : ByteArray := prog_11_method_7_code
def yX9_nextPlace : MethodName := ⟨RX9, "nextPlace", "(III)I"⟩
abbrev cX9_otherEnd : ByteArray := prog_11_method_8_code
def yX9_otherEnd : MethodName := ⟨RX9, "otherEnd", "(II)I"⟩
abbrev cX9_judgeAll : ByteArray := prog_11_method_9_code
def yX9_judgeAll : MethodName := ⟨RX9, "judgeAll", "()V"⟩
abbrev cX9_judge : ByteArray := prog_11_method_10_code
def yX9_judge : MethodName := ⟨RX9, "judge", "(I)V"⟩
abbrev cX9_orNotReached : ByteArray := prog_11_method_11_code
def yX9_orNotReached : MethodName := ⟨RX9, "orNotReached", "(I)I"⟩
abbrev cX9_nearestStop : ByteArray := prog_11_method_12_code
def yX9_nearestStop : MethodName := ⟨RX9, "nearestStop", "(I)I"⟩
def RX10 : String := "SchoolRides"
def TX10 : u_T := fun k => match k with
  | 0 => ("SchoolRides", "reader", "LSchoolRides$Reader;", true)
  | 1 => ("SchoolRides", "tape", "LSchoolRides$Tape;", true)
  | 2 => ("SchoolRides", "view", "LSchoolRides$View;", true)
  | 3 => ("SchoolRides", "texts", "[LSchoolRides$Text;", true)
  | 4 => ("SchoolRides", "facts", "LSchoolRides$Facts;", true)
  | 5 => ("SchoolRides", "plans", "[LSchoolRides$Plan;", true)
  | 6 => ("SchoolRides", "buses", "LSchoolRides$Fleet;", true)
  | 7 => ("SchoolRides", "tender", "LSchoolRides$Tender;", true)
  | 8 => ("SchoolRides", "crew", "LSchoolRides$Crew;", true)
  | 9 => ("SchoolRides", "snow", "LSchoolRides$Snow;", true)
  | 10 => ("SchoolRides", "textCount", "I", false)
  | 11 => ("SchoolRides", "faultPlace", "I", false)
  | 12 => ("SchoolRides", "lentFirst", "I", false)
  | _ => ("SchoolRides", "lentSecond", "I", false)
def tyX10 : Nat → FieldType := fun k => match k with
  | 0 => .object "SchoolRides$Reader"
  | 1 => .object "SchoolRides$Tape"
  | 2 => .object "SchoolRides$View"
  | 3 => .array (.object "SchoolRides$Text")
  | 4 => .object "SchoolRides$Facts"
  | 5 => .array (.object "SchoolRides$Plan")
  | 6 => .object "SchoolRides$Fleet"
  | 7 => .object "SchoolRides$Tender"
  | 8 => .object "SchoolRides$Crew"
  | 9 => .object "SchoolRides$Snow"
  | 10 => .int
  | 11 => .int
  | 12 => .int
  | _ => .int
abbrev wsX100 : List Cond := u_ws RX10 TX10 14
theorem nmX10 : ∀ a, a < 14 → ∀ b, b < 14 → a ≠ b → (TX10 a).2.1 ≠ (TX10 b).2.1 := by decide +kernel
theorem tyX10_ok : ∀ k, k < 14 → parseFieldDescriptor (TX10 k).2.2.1 = some (tyX10 k) := by decide +kernel
abbrev cX10_init : ByteArray := prog_1_method_1_code
def yX10_init : MethodName := ⟨RX10, "<init>", "()V"⟩
abbrev cX10_feed : ByteArray := prog_1_method_2_code
def yX10_feed : MethodName := ⟨RX10, "feed", "(IIIII)I"⟩
abbrev cX10_back : ByteArray := prog_1_method_3_code
def yX10_back : MethodName := ⟨RX10, "back", "(I)I"⟩
abbrev cX10_read : ByteArray := prog_1_method_4_code
def yX10_read : MethodName := ⟨RX10, "read", "(I)I"⟩
abbrev cX10_place : ByteArray := prog_1_method_5_code
def yX10_place : MethodName := ⟨RX10, "place", "()I"⟩
abbrev cX10_child : ByteArray := prog_1_method_6_code
def yX10_child : MethodName := ⟨RX10, "child", "(IIII)I"⟩
abbrev cX10_move : ByteArray := prog_1_method_7_code
def yX10_move : MethodName := ⟨RX10, "move", "(IIIZ)I"⟩
abbrev cX10_shut : ByteArray := prog_1_method_8_code
def yX10_shut : MethodName := ⟨RX10, "shut", "(III)I"⟩
abbrev cX10_part : ByteArray := prog_1_method_9_code
def yX10_part : MethodName := ⟨RX10, "part", "(II)I"⟩
abbrev cX10_tap : ByteArray := prog_1_method_10_code
def yX10_tap : MethodName := ⟨RX10, "tap", "(IIII)I"⟩
abbrev cX10_annul : ByteArray := prog_1_method_11_code
def yX10_annul : MethodName := ⟨RX10, "annul", "(I)I"⟩
abbrev cX10_force : ByteArray := prog_1_method_12_code
def yX10_force : MethodName := ⟨RX10, "force", "(I)I"⟩
abbrev cX10_home : ByteArray := prog_1_method_13_code
def yX10_home : MethodName := ⟨RX10, "home", "(III)I"⟩
abbrev cX10_dist : ByteArray := prog_1_method_14_code
def yX10_dist : MethodName := ⟨RX10, "dist", "(IIIII)I"⟩
abbrev cX10_row : ByteArray := prog_1_method_15_code
def yX10_row : MethodName := ⟨RX10, "row", "(IIIIII)I"⟩
abbrev cX10_right : ByteArray := prog_1_method_16_code
def yX10_right : MethodName := ⟨RX10, "right", "(III)I"⟩
abbrev cX10_altered : ByteArray := prog_1_method_17_code
def yX10_altered : MethodName := ⟨RX10, "altered", "(III)I"⟩
abbrev cX10_stop : ByteArray := prog_1_method_18_code
def yX10_stop : MethodName := ⟨RX10, "stop", "(III)I"⟩
abbrev cX10_load : ByteArray := prog_1_method_19_code
def yX10_load : MethodName := ⟨RX10, "load", "(IIII)I"⟩
abbrev cX10_route : ByteArray := prog_1_method_20_code
def yX10_route : MethodName := ⟨RX10, "route", "(IIII)I"⟩
abbrev cX10_routeStop : ByteArray := prog_1_method_21_code
def yX10_routeStop : MethodName := ⟨RX10, "routeStop", "(IIIII)I"⟩
abbrev cX10_good : ByteArray := prog_1_method_22_code
def yX10_good : MethodName := ⟨RX10, "good", "(IIII)I"⟩
abbrev cX10_pay : ByteArray := prog_1_method_23_code
def yX10_pay : MethodName := ⟨RX10, "pay", "(III)I"⟩
abbrev cX10_routes : ByteArray := prog_1_method_24_code
def yX10_routes : MethodName := ⟨RX10, "routes", "(III)I"⟩
abbrev cX10_routeSet : ByteArray := prog_1_method_25_code
def yX10_routeSet : MethodName := ⟨RX10, "routeSet", "(IIII)I"⟩
abbrev cX10_taxis : ByteArray := prog_1_method_26_code
def yX10_taxis : MethodName := ⟨RX10, "taxis", "(III)I"⟩
abbrev cX10_fewest : ByteArray := prog_1_method_27_code
def yX10_fewest : MethodName := ⟨RX10, "fewest", "(III)I"⟩
abbrev cX10_fleet : ByteArray := prog_1_method_28_code
def yX10_fleet : MethodName := ⟨RX10, "fleet", "(II)I"⟩
abbrev cX10_shifted : ByteArray := prog_1_method_29_code
def yX10_shifted : MethodName := ⟨RX10, "shifted", "(II)I"⟩
abbrev cX10_shift : ByteArray := prog_1_method_30_code
def yX10_shift : MethodName := ⟨RX10, "shift", "(III)I"⟩
abbrev cX10_bid : ByteArray := prog_1_method_31_code
def yX10_bid : MethodName := ⟨RX10, "bid", "(III)I"⟩
abbrev cX10_award : ByteArray := prog_1_method_32_code
def yX10_award : MethodName := ⟨RX10, "award", "(II)I"⟩
abbrev cX10_awarded : ByteArray := prog_1_method_33_code
def yX10_awarded : MethodName := ⟨RX10, "awarded", "(III)I"⟩
abbrev cX10_driver : ByteArray := prog_1_method_34_code
def yX10_driver : MethodName := ⟨RX10, "driver", "(I)I"⟩
abbrev cX10_leave : ByteArray := prog_1_method_35_code
def yX10_leave : MethodName := ⟨RX10, "leave", "(IZ)Z"⟩
abbrev cX10_weigh : ByteArray := prog_1_method_36_code
def yX10_weigh : MethodName := ⟨RX10, "weigh", "(II)Z"⟩
abbrev cX10_cover : ByteArray := prog_1_method_37_code
def yX10_cover : MethodName := ⟨RX10, "cover", "(I)I"⟩
abbrev cX10_drives : ByteArray := prog_1_method_38_code
def yX10_drives : MethodName := ⟨RX10, "drives", "(II)I"⟩
abbrev cX10_call : ByteArray := prog_1_method_39_code
def yX10_call : MethodName := ⟨RX10, "call", "(III)I"⟩
abbrev cX10_told : ByteArray := prog_1_method_40_code
def yX10_told : MethodName := ⟨RX10, "told", "(II)I"⟩
abbrev cX10_soonest : ByteArray := prog_1_method_41_code
def yX10_soonest : MethodName := ⟨RX10, "soonest", "()I"⟩
abbrev cX10_lent : ByteArray := prog_1_method_42_code
def yX10_lent : MethodName := ⟨RX10, "lent", "(I)I"⟩
abbrev cX10_lentAt : ByteArray := prog_1_method_43_code
def yX10_lentAt : MethodName := ⟨RX10, "lentAt", "(IIZ)I"⟩
abbrev cX10_count : ByteArray := prog_1_method_44_code
def yX10_count : MethodName := ⟨RX10, "count", "(I)I"⟩
abbrev cX10_within : ByteArray := prog_1_method_45_code
def yX10_within : MethodName := ⟨RX10, "within", "(II)Z"⟩
abbrev cX10_isDay : ByteArray := prog_1_method_46_code
def yX10_isDay : MethodName := ⟨RX10, "isDay", "(I)Z"⟩
abbrev cX10_isRouteCount : ByteArray := prog_1_method_47_code
def yX10_isRouteCount : MethodName := ⟨RX10, "isRouteCount", "(I)Z"⟩
abbrev cX10_isFirmOrNone : ByteArray := prog_1_method_48_code
def yX10_isFirmOrNone : MethodName := ⟨RX10, "isFirmOrNone", "(I)Z"⟩
abbrev cX10_canMeasure : ByteArray := prog_1_method_49_code
def yX10_canMeasure : MethodName := ⟨RX10, "canMeasure", "(III)Z"⟩
abbrev cX10_isKnowledge : ByteArray := prog_1_method_50_code
def yX10_isKnowledge : MethodName := ⟨RX10, "isKnowledge", "(I)Z"⟩
abbrev cX10_knowsChild : ByteArray := prog_1_method_51_code
def yX10_knowsChild : MethodName := ⟨RX10, "knowsChild", "(II)Z"⟩
abbrev cX10_countInText : ByteArray := prog_1_method_52_code
def yX10_countInText : MethodName := ⟨RX10, "countInText", "(II)I"⟩
abbrev cX10_inForce : ByteArray := prog_1_method_53_code
def yX10_inForce : MethodName := ⟨RX10, "inForce", "(I)I"⟩
abbrev cX10_look : ByteArray := prog_1_method_54_code
def yX10_look : MethodName := ⟨RX10, "look", "(II)Z"⟩
abbrev cX10_rightHolders : ByteArray := prog_1_method_55_code
def yX10_rightHolders : MethodName := ⟨RX10, "rightHolders", "()I"⟩
abbrev cX10_canPlan : ByteArray := prog_1_method_56_code
def yX10_canPlan : MethodName := ⟨RX10, "canPlan", "(III)Z"⟩
abbrev cX10_isStopSet : ByteArray := prog_1_method_57_code
def yX10_isStopSet : MethodName := ⟨RX10, "isStopSet", "(I)Z"⟩
abbrev cX10_preparePlan : ByteArray := prog_1_method_58_code
def yX10_preparePlan : MethodName := ⟨RX10, "preparePlan", "(I)V"⟩
abbrev cX10_gatherFleet : ByteArray := prog_1_method_59_code
def yX10_gatherFleet : MethodName := ⟨RX10, "gatherFleet", "()Z"⟩
abbrev cX10_findLent : ByteArray := prog_1_method_60_code
def yX10_findLent : MethodName := ⟨RX10, "findLent", "(II)I"⟩
abbrev cX10_isLent : ByteArray := prog_1_method_61_code
def yX10_isLent : MethodName := ⟨RX10, "isLent", "(II)Z"⟩
def RX11 : String := "SchoolRidesModel"
def TX11 : u_T := fun k => match k with
  | 0 => ("SchoolRidesModel", "taped", "I", false)
  | 1 => ("SchoolRidesModel", "tape", "[I", true)
  | 2 => ("SchoolRidesModel", "tokens", "I", false)
  | 3 => ("SchoolRidesModel", "tokenSort", "[I", true)
  | 4 => ("SchoolRidesModel", "tokenFrom", "[I", true)
  | 5 => ("SchoolRidesModel", "tokenWhat", "[I", true)
  | 6 => ("SchoolRidesModel", "tokenName", "[J", true)
  | 7 => ("SchoolRidesModel", "head", "I", false)
  | 8 => ("SchoolRidesModel", "fault", "I", false)
  | 9 => ("SchoolRidesModel", "faultPlace", "I", false)
  | 10 => ("SchoolRidesModel", "worst", "I", false)
  | 11 => ("SchoolRidesModel", "worstPlace", "I", false)
  | 12 => ("SchoolRidesModel", "texts", "I", false)
  | 13 => ("SchoolRidesModel", "reads", "I", false)
  | 14 => ("SchoolRidesModel", "holds", "[I", true)
  | 15 => ("SchoolRidesModel", "numbers", "[I", true)
  | 16 => ("SchoolRidesModel", "places", "[I", true)
  | 17 => ("SchoolRidesModel", "ways", "[I", true)
  | 18 => ("SchoolRidesModel", "wayA", "[I", true)
  | 19 => ("SchoolRidesModel", "wayB", "[I", true)
  | 20 => ("SchoolRidesModel", "metres", "[I", true)
  | 21 => ("SchoolRidesModel", "minutes", "[I", true)
  | 22 => ("SchoolRidesModel", "isBad", "[Z", true)
  | 23 => ("SchoolRidesModel", "schools", "[I", true)
  | 24 => ("SchoolRidesModel", "schoolAt", "[I", true)
  | 25 => ("SchoolRidesModel", "bell", "[I", true)
  | 26 => ("SchoolRidesModel", "stops", "[I", true)
  | 27 => ("SchoolRidesModel", "stopAt", "[I", true)
  | 28 => ("SchoolRidesModel", "rights", "[I", true)
  | 29 => ("SchoolRidesModel", "rightIf", "[I", true)
  | 30 => ("SchoolRidesModel", "rightEnd", "[I", true)
  | 31 => ("SchoolRidesModel", "codes", "[I", true)
  | 32 => ("SchoolRidesModel", "codeOp", "[I", true)
  | 33 => ("SchoolRidesModel", "codeValue", "[I", true)
  | 34 => ("SchoolRidesModel", "lits", "[I", true)
  | 35 => ("SchoolRidesModel", "litNot", "[Z", true)
  | 36 => ("SchoolRidesModel", "litOp", "[I", true)
  | 37 => ("SchoolRidesModel", "litA", "[I", true)
  | 38 => ("SchoolRidesModel", "litB", "[I", true)
  | 39 => ("SchoolRidesModel", "litC", "[I", true)
  | 40 => ("SchoolRidesModel", "litRow", "[I", true)
  | 41 => ("SchoolRidesModel", "names", "I", false)
  | 42 => ("SchoolRidesModel", "named", "[J", true)
  | 43 => ("SchoolRidesModel", "namedPlace", "[I", true)
  | 44 => ("SchoolRidesModel", "facts", "I", false)
  | 45 => ("SchoolRidesModel", "factKind", "[I", true)
  | 46 => ("SchoolRidesModel", "factA", "[I", true)
  | 47 => ("SchoolRidesModel", "factB", "[I", true)
  | 48 => ("SchoolRidesModel", "factC", "[I", true)
  | 49 => ("SchoolRidesModel", "factD", "[I", true)
  | 50 => ("SchoolRidesModel", "children", "I", false)
  | 51 => ("SchoolRidesModel", "childFact", "[I", true)
  | 52 => ("SchoolRidesModel", "bids", "I", false)
  | 53 => ("SchoolRidesModel", "bidFirm", "[I", true)
  | 54 => ("SchoolRidesModel", "bidSet", "[I", true)
  | 55 => ("SchoolRidesModel", "bidPrice", "[I", true)
  | 56 => ("SchoolRidesModel", "drivers", "I", false)
  | 57 => ("SchoolRidesModel", "driverSet", "[I", true)
  | 58 => ("SchoolRidesModel", "isGone", "[Z", true)
  | 59 => ("SchoolRidesModel", "weights", "[I", true)
  | 60 => ("SchoolRidesModel", "calls", "I", false)
  | 61 => ("SchoolRidesModel", "callA", "[I", true)
  | 62 => ("SchoolRidesModel", "callB", "[I", true)
  | 63 => ("SchoolRidesModel", "callTime", "[I", true)
  | 64 => ("SchoolRidesModel", "valued", "I", false)
  | 65 => ("SchoolRidesModel", "waiting", "I", false)
  | 66 => ("SchoolRidesModel", "waits", "[I", true)
  | 67 => ("SchoolRidesModel", "exprFrom", "I", false)
  | 68 => ("SchoolRidesModel", "condFrom", "I", false)
  | 69 => ("SchoolRidesModel", "text", "I", false)
  | 70 => ("SchoolRidesModel", "isShut", "[Z", true)
  | 71 => ("SchoolRidesModel", "least", "[I", true)
  | 72 => ("SchoolRidesModel", "asked", "[I", true)
  | 73 => ("SchoolRidesModel", "stack", "[I", true)
  | 74 => ("SchoolRidesModel", "had", "[Z", true)
  | 75 => ("SchoolRidesModel", "school", "I", false)
  | 76 => ("SchoolRidesModel", "ridersAt", "[I", true)
  | 77 => ("SchoolRidesModel", "seatsAt", "[I", true)
  | 78 => ("SchoolRidesModel", "routeSum", "[I", true)
  | 79 => ("SchoolRidesModel", "routeRow", "[I", true)
  | 80 => ("SchoolRidesModel", "isGood", "[Z", true)
  | 81 => ("SchoolRidesModel", "routePay", "[I", true)
  | 82 => ("SchoolRidesModel", "apart", "[I", true)
  | 83 => ("SchoolRidesModel", "hand", "[I", true)
  | 84 => ("SchoolRidesModel", "leastPay", "[I", true)
  | 85 => ("SchoolRidesModel", "leastRoutes", "[I", true)
  | 86 => ("SchoolRidesModel", "planned", "I", false)
  | 87 => ("SchoolRidesModel", "planSet", "[I", true)
  | 88 => ("SchoolRidesModel", "planTaxis", "I", false)
  | 89 => ("SchoolRidesModel", "runs", "I", false)
  | 90 => ("SchoolRidesModel", "runSchool", "[I", true)
  | 91 => ("SchoolRidesModel", "runFirst", "[I", true)
  | 92 => ("SchoolRidesModel", "runSum", "[I", true)
  | 93 => ("SchoolRidesModel", "put", "[I", true)
  | 94 => ("SchoolRidesModel", "mate", "[I", true)
  | 95 => ("SchoolRidesModel", "seen", "[Z", true)
  | 96 => ("SchoolRidesModel", "trail", "[I", true)
  | 97 => ("SchoolRidesModel", "tried", "[I", true)
  | 98 => ("SchoolRidesModel", "bestPut", "[I", true)
  | 99 => ("SchoolRidesModel", "awards", "[I", true)
  | 100 => ("SchoolRidesModel", "undriven", "[I", true)
  | 101 => ("SchoolRidesModel", "hears", "[I", true)
  | 102 => ("SchoolRidesModel", "lends", "I", false)
  | 103 => ("SchoolRidesModel", "lendFirst", "I", false)
  | _ => ("SchoolRidesModel", "lendSecond", "I", false)
def tyX11 : Nat → FieldType := fun k => match k with
  | 0 => .int
  | 1 => .array .int
  | 2 => .int
  | 3 => .array .int
  | 4 => .array .int
  | 5 => .array .int
  | 6 => .array .long
  | 7 => .int
  | 8 => .int
  | 9 => .int
  | 10 => .int
  | 11 => .int
  | 12 => .int
  | 13 => .int
  | 14 => .array .int
  | 15 => .array .int
  | 16 => .array .int
  | 17 => .array .int
  | 18 => .array .int
  | 19 => .array .int
  | 20 => .array .int
  | 21 => .array .int
  | 22 => .array .boolean
  | 23 => .array .int
  | 24 => .array .int
  | 25 => .array .int
  | 26 => .array .int
  | 27 => .array .int
  | 28 => .array .int
  | 29 => .array .int
  | 30 => .array .int
  | 31 => .array .int
  | 32 => .array .int
  | 33 => .array .int
  | 34 => .array .int
  | 35 => .array .boolean
  | 36 => .array .int
  | 37 => .array .int
  | 38 => .array .int
  | 39 => .array .int
  | 40 => .array .int
  | 41 => .int
  | 42 => .array .long
  | 43 => .array .int
  | 44 => .int
  | 45 => .array .int
  | 46 => .array .int
  | 47 => .array .int
  | 48 => .array .int
  | 49 => .array .int
  | 50 => .int
  | 51 => .array .int
  | 52 => .int
  | 53 => .array .int
  | 54 => .array .int
  | 55 => .array .int
  | 56 => .int
  | 57 => .array .int
  | 58 => .array .boolean
  | 59 => .array .int
  | 60 => .int
  | 61 => .array .int
  | 62 => .array .int
  | 63 => .array .int
  | 64 => .int
  | 65 => .int
  | 66 => .array .int
  | 67 => .int
  | 68 => .int
  | 69 => .int
  | 70 => .array .boolean
  | 71 => .array .int
  | 72 => .array .int
  | 73 => .array .int
  | 74 => .array .boolean
  | 75 => .int
  | 76 => .array .int
  | 77 => .array .int
  | 78 => .array .int
  | 79 => .array .int
  | 80 => .array .boolean
  | 81 => .array .int
  | 82 => .array .int
  | 83 => .array .int
  | 84 => .array .int
  | 85 => .array .int
  | 86 => .int
  | 87 => .array .int
  | 88 => .int
  | 89 => .int
  | 90 => .array .int
  | 91 => .array .int
  | 92 => .array .int
  | 93 => .array .int
  | 94 => .array .int
  | 95 => .array .boolean
  | 96 => .array .int
  | 97 => .array .int
  | 98 => .array .int
  | 99 => .array .int
  | 100 => .array .int
  | 101 => .array .int
  | 102 => .int
  | 103 => .int
  | _ => .int
abbrev wsX110 : List Cond := u_ws RX11 TX11 105
theorem nmX11 : ∀ a, a < 105 → ∀ b, b < 105 → a ≠ b → (TX11 a).2.1 ≠ (TX11 b).2.1 := by decide +kernel
theorem tyX11_ok : ∀ k, k < 105 → parseFieldDescriptor (TX11 k).2.2.1 = some (tyX11 k) := by decide +kernel
abbrev cX11_init : ByteArray := prog_13_method_1_code
def yX11_init : MethodName := ⟨RX11, "<init>", "()V"⟩
abbrev cX11_feed : ByteArray := prog_13_method_2_code
def yX11_feed : MethodName := ⟨RX11, "feed", "(IIIII)I"⟩
abbrev cX11_typed : ByteArray := prog_13_method_3_code
def yX11_typed : MethodName := ⟨RX11, "typed", "(I)V"⟩
abbrev cX11_back : ByteArray := prog_13_method_4_code
def yX11_back : MethodName := ⟨RX11, "back", "(I)I"⟩
abbrev cX11_byteAt : ByteArray := prog_13_method_5_code
def yX11_byteAt : MethodName := ⟨RX11, "byteAt", "(I)I"⟩
abbrev cX11_isLetter : ByteArray := prog_13_method_6_code
def yX11_isLetter : MethodName := ⟨RX11, "isLetter", "(I)Z"⟩
abbrev cX11_isDigit : ByteArray := prog_13_method_7_code
def yX11_isDigit : MethodName := ⟨RX11, "isDigit", "(I)Z"⟩
abbrev cX11_token : ByteArray := prog_13_method_8_code
def yX11_token : MethodName := ⟨RX11, "token", "(III)V"⟩
abbrev cX11_wordOf : ByteArray := prog_13_method_9_code
def yX11_wordOf : MethodName := ⟨RX11, "wordOf", "(J)I"⟩
abbrev cX11_signAt : ByteArray := prog_13_method_10_code
def yX11_signAt : MethodName := ⟨RX11, "signAt", "(I)I"⟩
abbrev cX11_scan : ByteArray := prog_13_method_11_code
def yX11_scan : MethodName := ⟨RX11, "scan", "(I)I"⟩
abbrev cX11_scanAll : ByteArray := prog_13_method_12_code
def yX11_scanAll : MethodName := ⟨RX11, "scanAll", "()V"⟩
abbrev cX11_wrong : ByteArray := prog_13_method_13_code
def yX11_wrong : MethodName := ⟨RX11, "wrong", "(I)Z"⟩
abbrev cX11_tells : ByteArray := prog_13_method_14_code
def yX11_tells : MethodName := ⟨RX11, "tells", "(II)V"⟩
abbrev cX11_pass : ByteArray := prog_13_method_15_code
def yX11_pass : MethodName := ⟨RX11, "pass", "()Z"⟩
abbrev cX11_isSign : ByteArray := prog_13_method_16_code
def yX11_isSign : MethodName := ⟨RX11, "isSign", "(I)Z"⟩
abbrev cX11_isWord : ByteArray := prog_13_method_17_code
def yX11_isWord : MethodName := ⟨RX11, "isWord", "(I)Z"⟩
abbrev cX11_takes : ByteArray := prog_13_method_18_code
def yX11_takes : MethodName := ⟨RX11, "takes", "(I)Z"⟩
abbrev cX11_takesInt : ByteArray := prog_13_method_19_code
def yX11_takesInt : MethodName := ⟨RX11, "takesInt", "(II)Z"⟩
abbrev cX11_emit : ByteArray := prog_13_method_20_code
def yX11_emit : MethodName := ⟨RX11, "emit", "(II)V"⟩
abbrev cX11_rank : ByteArray := prog_13_method_21_code
def yX11_rank : MethodName := ⟨RX11, "rank", "(I)I"⟩
abbrev cX11_reduce : ByteArray := prog_13_method_22_code
def yX11_reduce : MethodName := ⟨RX11, "reduce", "(II)V"⟩
abbrev cX11_await : ByteArray := prog_13_method_23_code
def yX11_await : MethodName := ⟨RX11, "await", "(I)V"⟩
abbrev cX11_variableOf : ByteArray := prog_13_method_24_code
def yX11_variableOf : MethodName := ⟨RX11, "variableOf", "(I)I"⟩
abbrev cX11_expr : ByteArray := prog_13_method_25_code
def yX11_expr : MethodName := ⟨RX11, "expr", "()Z"⟩
abbrev cX11_cond : ByteArray := prog_13_method_26_code
def yX11_cond : MethodName := ⟨RX11, "cond", "()Z"⟩
abbrev cX11_begin : ByteArray := prog_13_method_27_code
def yX11_begin : MethodName := ⟨RX11, "begin", "(I)V"⟩
abbrev cX11_placeAt : ByteArray := prog_13_method_28_code
def yX11_placeAt : MethodName := ⟨RX11, "placeAt", "(I)I"⟩
abbrev cX11_names : ByteArray := prog_13_method_29_code
def yX11_names : MethodName := ⟨RX11, "names", "(I)Z"⟩
abbrev cX11_tellWay : ByteArray := prog_13_method_30_code
def yX11_tellWay : MethodName := ⟨RX11, "tellWay", "()Z"⟩
abbrev cX11_tellSchool : ByteArray := prog_13_method_31_code
def yX11_tellSchool : MethodName := ⟨RX11, "tellSchool", "()Z"⟩
abbrev cX11_tellStop : ByteArray := prog_13_method_32_code
def yX11_tellStop : MethodName := ⟨RX11, "tellStop", "()Z"⟩
abbrev cX11_tellRight : ByteArray := prog_13_method_33_code
def yX11_tellRight : MethodName := ⟨RX11, "tellRight", "()Z"⟩
abbrev cX11_tellNumber : ByteArray := prog_13_method_34_code
def yX11_tellNumber : MethodName := ⟨RX11, "tellNumber", "(II)Z"⟩
abbrev cX11_tell : ByteArray := prog_13_method_35_code
def yX11_tell : MethodName := ⟨RX11, "tell", "()Z"⟩
abbrev cX11_parses : ByteArray := prog_13_method_36_code
def yX11_parses : MethodName := ⟨RX11, "parses", "()Z"⟩
abbrev cX11_read : ByteArray := prog_13_method_37_code
def yX11_read : MethodName := ⟨RX11, "read", "(I)I"⟩
abbrev cX11_place : ByteArray := prog_13_method_38_code
def yX11_place : MethodName := ⟨RX11, "place", "()I"⟩
abbrev cX11_fact : ByteArray := prog_13_method_39_code
def yX11_fact : MethodName := ⟨RX11, "fact", "(IIIII)I"⟩
abbrev cX11_isIn : ByteArray := prog_13_method_40_code
def yX11_isIn : MethodName := ⟨RX11, "isIn", "(III)Z"⟩
abbrev cX11_isChild : ByteArray := prog_13_method_41_code
def yX11_isChild : MethodName := ⟨RX11, "isChild", "(I)Z"⟩
abbrev cX11_child : ByteArray := prog_13_method_42_code
def yX11_child : MethodName := ⟨RX11, "child", "(IIII)I"⟩
abbrev cX11_move : ByteArray := prog_13_method_43_code
def yX11_move : MethodName := ⟨RX11, "move", "(IIIZ)I"⟩
abbrev cX11_shut : ByteArray := prog_13_method_44_code
def yX11_shut : MethodName := ⟨RX11, "shut", "(III)I"⟩
abbrev cX11_part : ByteArray := prog_13_method_45_code
def yX11_part : MethodName := ⟨RX11, "part", "(II)I"⟩
abbrev cX11_tap : ByteArray := prog_13_method_46_code
def yX11_tap : MethodName := ⟨RX11, "tap", "(IIII)I"⟩
abbrev cX11_annul : ByteArray := prog_13_method_47_code
def yX11_annul : MethodName := ⟨RX11, "annul", "(I)I"⟩
abbrev cX11_isKnown : ByteArray := prog_13_method_48_code
def yX11_isKnown : MethodName := ⟨RX11, "isKnown", "(I)Z"⟩
abbrev cX11_isLive : ByteArray := prog_13_method_49_code
def yX11_isLive : MethodName := ⟨RX11, "isLive", "(II)Z"⟩
abbrev cX11_force : ByteArray := prog_13_method_50_code
def yX11_force : MethodName := ⟨RX11, "force", "(I)I"⟩
abbrev cX11_isKnownChild : ByteArray := prog_13_method_51_code
def yX11_isKnownChild : MethodName := ⟨RX11, "isKnownChild", "(II)Z"⟩
abbrev cX11_homeOf : ByteArray := prog_13_method_52_code
def yX11_homeOf : MethodName := ⟨RX11, "homeOf", "(III)I"⟩
abbrev cX11_lastHome : ByteArray := prog_13_method_53_code
def yX11_lastHome : MethodName := ⟨RX11, "lastHome", "(IIII)I"⟩
abbrev cX11_home : ByteArray := prog_13_method_54_code
def yX11_home : MethodName := ⟨RX11, "home", "(III)I"⟩
abbrev cX11_weightOf : ByteArray := prog_13_method_55_code
def yX11_weightOf : MethodName := ⟨RX11, "weightOf", "(II)I"⟩
abbrev cX11_isOpen : ByteArray := prog_13_method_56_code
def yX11_isOpen : MethodName := ⟨RX11, "isOpen", "(II)Z"⟩
abbrev cX11_lay : ByteArray := prog_13_method_57_code
def yX11_lay : MethodName := ⟨RX11, "lay", "(II)V"⟩
abbrev cX11_join : ByteArray := prog_13_method_58_code
def yX11_join : MethodName := ⟨RX11, "join", "(IIII)V"⟩
abbrev cX11_isDay : ByteArray := prog_13_method_59_code
def yX11_isDay : MethodName := ⟨RX11, "isDay", "(II)Z"⟩
abbrev cX11_isDist : ByteArray := prog_13_method_60_code
def yX11_isDist : MethodName := ⟨RX11, "isDist", "(IIIII)Z"⟩
abbrev cX11_leastOf : ByteArray := prog_13_method_61_code
def yX11_leastOf : MethodName := ⟨RX11, "leastOf", "(III)I"⟩
abbrev cX11_dist : ByteArray := prog_13_method_62_code
def yX11_dist : MethodName := ⟨RX11, "dist", "(IIIII)I"⟩
abbrev cX11_onward : ByteArray := prog_13_method_63_code
def yX11_onward : MethodName := ⟨RX11, "onward", "(III)I"⟩
abbrev cX11_row : ByteArray := prog_13_method_64_code
def yX11_row : MethodName := ⟨RX11, "row", "(IIIIII)I"⟩
abbrev cX11_sum : ByteArray := prog_13_method_65_code
def yX11_sum : MethodName := ⟨RX11, "sum", "(II)I"⟩
abbrev cX11_isLit : ByteArray := prog_13_method_66_code
def yX11_isLit : MethodName := ⟨RX11, "isLit", "(I)Z"⟩
abbrev cX11_isHeld : ByteArray := prog_13_method_67_code
def yX11_isHeld : MethodName := ⟨RX11, "isHeld", "(II)Z"⟩
abbrev cX11_rightOf : ByteArray := prog_13_method_68_code
def yX11_rightOf : MethodName := ⟨RX11, "rightOf", "(III)I"⟩
abbrev cX11_right : ByteArray := prog_13_method_69_code
def yX11_right : MethodName := ⟨RX11, "right", "(III)I"⟩
abbrev cX11_altered : ByteArray := prog_13_method_70_code
def yX11_altered : MethodName := ⟨RX11, "altered", "(III)I"⟩
abbrev cX11_stopOf : ByteArray := prog_13_method_71_code
def yX11_stopOf : MethodName := ⟨RX11, "stopOf", "(III)I"⟩
abbrev cX11_stop : ByteArray := prog_13_method_72_code
def yX11_stop : MethodName := ⟨RX11, "stop", "(III)I"⟩
abbrev cX11_riders : ByteArray := prog_13_method_73_code
def yX11_riders : MethodName := ⟨RX11, "riders", "(III)V"⟩
abbrev cX11_isSchool : ByteArray := prog_13_method_74_code
def yX11_isSchool : MethodName := ⟨RX11, "isSchool", "(III)Z"⟩
abbrev cX11_load : ByteArray := prog_13_method_75_code
def yX11_load : MethodName := ⟨RX11, "load", "(IIII)I"⟩
abbrev cX11_placeOfStop : ByteArray := prog_13_method_76_code
def yX11_placeOfStop : MethodName := ⟨RX11, "placeOfStop", "(I)I"⟩
abbrev cX11_placeOfSchool : ByteArray := prog_13_method_77_code
def yX11_placeOfSchool : MethodName := ⟨RX11, "placeOfSchool", "(I)I"⟩
abbrev cX11_driven : ByteArray := prog_13_method_78_code
def yX11_driven : MethodName := ⟨RX11, "driven", "(I)I"⟩
abbrev cX11_reorders : ByteArray := prog_13_method_79_code
def yX11_reorders : MethodName := ⟨RX11, "reorders", "(I)Z"⟩
abbrev cX11_turn : ByteArray := prog_13_method_80_code
def yX11_turn : MethodName := ⟨RX11, "turn", "(II)V"⟩
abbrev cX11_manyOf : ByteArray := prog_13_method_81_code
def yX11_manyOf : MethodName := ⟨RX11, "manyOf", "(I)I"⟩
abbrev cX11_laid : ByteArray := prog_13_method_82_code
def yX11_laid : MethodName := ⟨RX11, "laid", "(I)V"⟩
abbrev cX11_judge : ByteArray := prog_13_method_83_code
def yX11_judge : MethodName := ⟨RX11, "judge", "(I)V"⟩
abbrev cX11_allRoutes : ByteArray := prog_13_method_84_code
def yX11_allRoutes : MethodName := ⟨RX11, "allRoutes", "(III)V"⟩
abbrev cX11_isSet : ByteArray := prog_13_method_85_code
def yX11_isSet : MethodName := ⟨RX11, "isSet", "(IIII)Z"⟩
abbrev cX11_route : ByteArray := prog_13_method_86_code
def yX11_route : MethodName := ⟨RX11, "route", "(IIII)I"⟩
abbrev cX11_routeStop : ByteArray := prog_13_method_87_code
def yX11_routeStop : MethodName := ⟨RX11, "routeStop", "(IIIII)I"⟩
abbrev cX11_good : ByteArray := prog_13_method_88_code
def yX11_good : MethodName := ⟨RX11, "good", "(IIII)I"⟩
abbrev cX11_taxi : ByteArray := prog_13_method_89_code
def yX11_taxi : MethodName := ⟨RX11, "taxi", "(I)I"⟩
abbrev cX11_ridden : ByteArray := prog_13_method_90_code
def yX11_ridden : MethodName := ⟨RX11, "ridden", "()I"⟩
abbrev cX11_firstOf : ByteArray := prog_13_method_91_code
def yX11_firstOf : MethodName := ⟨RX11, "firstOf", "(I)I"⟩
abbrev cX11_offer : ByteArray := prog_13_method_92_code
def yX11_offer : MethodName := ⟨RX11, "offer", "(IIII)V"⟩
abbrev cX11_plans : ByteArray := prog_13_method_93_code
def yX11_plans : MethodName := ⟨RX11, "plans", "()Z"⟩
abbrev cX11_isBest : ByteArray := prog_13_method_94_code
def yX11_isBest : MethodName := ⟨RX11, "isBest", "(IIII)Z"⟩
abbrev cX11_chosen : ByteArray := prog_13_method_95_code
def yX11_chosen : MethodName := ⟨RX11, "chosen", "(I)I"⟩
abbrev cX11_planOf : ByteArray := prog_13_method_96_code
def yX11_planOf : MethodName := ⟨RX11, "planOf", "(III)I"⟩
abbrev cX11_pay : ByteArray := prog_13_method_97_code
def yX11_pay : MethodName := ⟨RX11, "pay", "(III)I"⟩
abbrev cX11_routes : ByteArray := prog_13_method_98_code
def yX11_routes : MethodName := ⟨RX11, "routes", "(III)I"⟩
abbrev cX11_routeSet : ByteArray := prog_13_method_99_code
def yX11_routeSet : MethodName := ⟨RX11, "routeSet", "(IIII)I"⟩
abbrev cX11_taxis : ByteArray := prog_13_method_100_code
def yX11_taxis : MethodName := ⟨RX11, "taxis", "(III)I"⟩
abbrev cX11_fewest : ByteArray := prog_13_method_101_code
def yX11_fewest : MethodName := ⟨RX11, "fewest", "(III)I"⟩
abbrev cX11_collects : ByteArray := prog_13_method_102_code
def yX11_collects : MethodName := ⟨RX11, "collects", "(II)Z"⟩
abbrev cX11_bellOf : ByteArray := prog_13_method_103_code
def yX11_bellOf : MethodName := ⟨RX11, "bellOf", "(I)I"⟩
abbrev cX11_isBehind : ByteArray := prog_13_method_104_code
def yX11_isBehind : MethodName := ⟨RX11, "isBehind", "(II)Z"⟩
abbrev cX11_finds : ByteArray := prog_13_method_105_code
def yX11_finds : MethodName := ⟨RX11, "finds", "(I)Z"⟩
abbrev cX11_busesOf : ByteArray := prog_13_method_106_code
def yX11_busesOf : MethodName := ⟨RX11, "busesOf", "()I"⟩
abbrev cX11_fleet : ByteArray := prog_13_method_107_code
def yX11_fleet : MethodName := ⟨RX11, "fleet", "(II)I"⟩
abbrev cX11_plain : ByteArray := prog_13_method_108_code
def yX11_plain : MethodName := ⟨RX11, "plain", "(I)I"⟩
abbrev cX11_shiftedFleet : ByteArray := prog_13_method_109_code
def yX11_shiftedFleet : MethodName := ⟨RX11, "shiftedFleet", "(II)I"⟩
abbrev cX11_shifted : ByteArray := prog_13_method_110_code
def yX11_shifted : MethodName := ⟨RX11, "shifted", "(II)I"⟩
abbrev cX11_shift : ByteArray := prog_13_method_111_code
def yX11_shift : MethodName := ⟨RX11, "shift", "(III)I"⟩
abbrev cX11_bid : ByteArray := prog_13_method_112_code
def yX11_bid : MethodName := ⟨RX11, "bid", "(III)I"⟩
abbrev cX11_isBid : ByteArray := prog_13_method_113_code
def yX11_isBid : MethodName := ⟨RX11, "isBid", "(III)Z"⟩
abbrev cX11_award : ByteArray := prog_13_method_114_code
def yX11_award : MethodName := ⟨RX11, "award", "(II)I"⟩
abbrev cX11_awarded : ByteArray := prog_13_method_115_code
def yX11_awarded : MethodName := ⟨RX11, "awarded", "(III)I"⟩
abbrev cX11_driver : ByteArray := prog_13_method_116_code
def yX11_driver : MethodName := ⟨RX11, "driver", "(I)I"⟩
abbrev cX11_leave : ByteArray := prog_13_method_117_code
def yX11_leave : MethodName := ⟨RX11, "leave", "(IZ)Z"⟩
abbrev cX11_weigh : ByteArray := prog_13_method_118_code
def yX11_weigh : MethodName := ⟨RX11, "weigh", "(II)Z"⟩
abbrev cX11_mayDrive : ByteArray := prog_13_method_119_code
def yX11_mayDrive : MethodName := ⟨RX11, "mayDrive", "(III)Z"⟩
abbrev cX11_covers : ByteArray := prog_13_method_120_code
def yX11_covers : MethodName := ⟨RX11, "covers", "(I)V"⟩
abbrev cX11_cover : ByteArray := prog_13_method_121_code
def yX11_cover : MethodName := ⟨RX11, "cover", "(I)I"⟩
abbrev cX11_drives : ByteArray := prog_13_method_122_code
def yX11_drives : MethodName := ⟨RX11, "drives", "(II)I"⟩
abbrev cX11_call : ByteArray := prog_13_method_123_code
def yX11_call : MethodName := ⟨RX11, "call", "(III)I"⟩
abbrev cX11_snow : ByteArray := prog_13_method_124_code
def yX11_snow : MethodName := ⟨RX11, "snow", "(I)V"⟩
abbrev cX11_told : ByteArray := prog_13_method_125_code
def yX11_told : MethodName := ⟨RX11, "told", "(II)I"⟩
abbrev cX11_soonest : ByteArray := prog_13_method_126_code
def yX11_soonest : MethodName := ⟨RX11, "soonest", "()I"⟩
abbrev cX11_isLent : ByteArray := prog_13_method_127_code
def yX11_isLent : MethodName := ⟨RX11, "isLent", "(III)Z"⟩
abbrev cX11_lend : ByteArray := prog_13_method_128_code
def yX11_lend : MethodName := ⟨RX11, "lend", "(II)V"⟩
abbrev cX11_lent : ByteArray := prog_13_method_129_code
def yX11_lent : MethodName := ⟨RX11, "lent", "(I)I"⟩
abbrev cX11_lentAt : ByteArray := prog_13_method_130_code
def yX11_lentAt : MethodName := ⟨RX11, "lentAt", "(IIZ)I"⟩
abbrev cX11_count : ByteArray := prog_13_method_131_code
def yX11_count : MethodName := ⟨RX11, "count", "(I)I"⟩
abbrev cX11_countOf : ByteArray := prog_13_method_132_code
def yX11_countOf : MethodName := ⟨RX11, "countOf", "(I)I"⟩
def RJx145de : String := "java/io/Serializable"
def TJx145de : u_T := fun k => match k with
  | _ => ("", "", "", false)
def tyJx145de : Nat → FieldType := fun k => match k with
  | _ => .int
abbrev wsJx145de0 : List Cond := u_ws RJx145de TJx145de 0
theorem nmJx145de : ∀ a, a < 0 → ∀ b, b < 0 → a ≠ b → (TJx145de a).2.1 ≠ (TJx145de b).2.1 := by decide +kernel
theorem tyJx145de_ok : ∀ k, k < 0 → parseFieldDescriptor (TJx145de k).2.2.1 = some (tyJx145de k) := by decide +kernel
def RJx9f9b0 : String := "java/lang/CharSequence"
def TJx9f9b0 : u_T := fun k => match k with
  | _ => ("", "", "", false)
def tyJx9f9b0 : Nat → FieldType := fun k => match k with
  | _ => .int
abbrev wsJx9f9b00 : List Cond := u_ws RJx9f9b0 TJx9f9b0 0
theorem nmJx9f9b0 : ∀ a, a < 0 → ∀ b, b < 0 → a ≠ b → (TJx9f9b0 a).2.1 ≠ (TJx9f9b0 b).2.1 := by decide +kernel
theorem tyJx9f9b0_ok : ∀ k, k < 0 → parseFieldDescriptor (TJx9f9b0 k).2.2.1 = some (tyJx9f9b0 k) := by decide +kernel
def RJxb160c : String := "java/lang/Comparable"
def TJxb160c : u_T := fun k => match k with
  | _ => ("", "", "", false)
def tyJxb160c : Nat → FieldType := fun k => match k with
  | _ => .int
abbrev wsJxb160c0 : List Cond := u_ws RJxb160c TJxb160c 0
theorem nmJxb160c : ∀ a, a < 0 → ∀ b, b < 0 → a ≠ b → (TJxb160c a).2.1 ≠ (TJxb160c b).2.1 := by decide +kernel
theorem tyJxb160c_ok : ∀ k, k < 0 → parseFieldDescriptor (TJxb160c k).2.2.1 = some (tyJxb160c k) := by decide +kernel
def RJ6 : String := "java/lang/Integer"
def TJ6 : u_T := fun k => match k with
  | _ => ("", "", "", false)
def tyJ6 : Nat → FieldType := fun k => match k with
  | _ => .int
abbrev wsJ60 : List Cond := u_ws RJ6 TJ6 0
theorem nmJ6 : ∀ a, a < 0 → ∀ b, b < 0 → a ≠ b → (TJ6 a).2.1 ≠ (TJ6 b).2.1 := by decide +kernel
theorem tyJ6_ok : ∀ k, k < 0 → parseFieldDescriptor (TJ6 k).2.2.1 = some (tyJ6 k) := by decide +kernel
abbrev cJ6_bitCount_0f7a4 : ByteArray := prog_14_method_49_code
def yJ6_bitCount_0f7a4 : MethodName := ⟨RJ6, "bitCount", "(I)I"⟩
def RJ9 : String := "java/lang/Math"
def TJ9 : u_T := fun k => match k with
  | _ => ("", "", "", false)
def tyJ9 : Nat → FieldType := fun k => match k with
  | _ => .int
abbrev wsJ90 : List Cond := u_ws RJ9 TJ9 0
theorem nmJ9 : ∀ a, a < 0 → ∀ b, b < 0 → a ≠ b → (TJ9 a).2.1 ≠ (TJ9 b).2.1 := by decide +kernel
theorem tyJ9_ok : ∀ k, k < 0 → parseFieldDescriptor (TJ9 k).2.2.1 = some (tyJ9 k) := by decide +kernel
abbrev cJ9_abs_0f7a4 : ByteArray := prog_15_method_59_code
def yJ9_abs_0f7a4 : MethodName := ⟨RJ9, "abs", "(I)I"⟩
abbrev cJ9_max_7cf53 : ByteArray := prog_15_method_65_code
def yJ9_max_7cf53 : MethodName := ⟨RJ9, "max", "(II)I"⟩
abbrev cJ9_min_7cf53 : ByteArray := prog_15_method_69_code
def yJ9_min_7cf53 : MethodName := ⟨RJ9, "min", "(II)I"⟩
def RJ0 : String := "java/lang/String"
def TJ0 : u_T := fun k => match k with
  | _ => ("", "", "", false)
def tyJ0 : Nat → FieldType := fun k => match k with
  | _ => .int
abbrev wsJ00 : List Cond := u_ws RJ0 TJ0 0
theorem nmJ0 : ∀ a, a < 0 → ∀ b, b < 0 → a ≠ b → (TJ0 a).2.1 ≠ (TJ0 b).2.1 := by decide +kernel
theorem tyJ0_ok : ∀ k, k < 0 → parseFieldDescriptor (TJ0 k).2.2.1 = some (tyJ0 k) := by decide +kernel
abbrev cJ0_charAt_5068e : ByteArray := prog_16_method_56_code
def yJ0_charAt_5068e : MethodName := ⟨RJ0, "charAt", "(I)C"⟩
abbrev cJ0_isLatin1_aae02 : ByteArray := prog_16_method_154_code
def yJ0_isLatin1_aae02 : MethodName := ⟨RJ0, "isLatin1", "()Z"⟩
abbrev cJ0_checkIndex_df160 : ByteArray := prog_16_method_155_code
def yJ0_checkIndex_df160 : MethodName := ⟨RJ0, "checkIndex", "(II)V"⟩
def RJ1 : String := "java/lang/StringLatin1"
def TJ1 : u_T := fun k => match k with
  | _ => ("", "", "", false)
def tyJ1 : Nat → FieldType := fun k => match k with
  | _ => .int
abbrev wsJ10 : List Cond := u_ws RJ1 TJ1 0
theorem nmJ1 : ∀ a, a < 0 → ∀ b, b < 0 → a ≠ b → (TJ1 a).2.1 ≠ (TJ1 b).2.1 := by decide +kernel
theorem tyJ1_ok : ∀ k, k < 0 → parseFieldDescriptor (TJ1 k).2.2.1 = some (tyJ1 k) := by decide +kernel
abbrev cJ1_charAt_3b067 : ByteArray := prog_17_method_2_code
def yJ1_charAt_3b067 : MethodName := ⟨RJ1, "charAt", "([BI)C"⟩
def RJ2 : String := "java/lang/StringUTF16"
def TJ2 : u_T := fun k => match k with
  | _ => ("", "", "", false)
def tyJ2 : Nat → FieldType := fun k => match k with
  | _ => .int
abbrev wsJ20 : List Cond := u_ws RJ2 TJ2 0
theorem nmJ2 : ∀ a, a < 0 → ∀ b, b < 0 → a ≠ b → (TJ2 a).2.1 ≠ (TJ2 b).2.1 := by decide +kernel
theorem tyJ2_ok : ∀ k, k < 0 → parseFieldDescriptor (TJ2 k).2.2.1 = some (tyJ2 k) := by decide +kernel
abbrev cJ2_getChar_3b067 : ByteArray := prog_18_method_5_code
def yJ2_getChar_3b067 : MethodName := ⟨RJ2, "getChar", "([BI)C"⟩
abbrev cJ2_length_9d52b : ByteArray := prog_18_method_6_code
def yJ2_length_9d52b : MethodName := ⟨RJ2, "length", "([B)I"⟩
abbrev cJ2_charAt_3b067 : ByteArray := prog_18_method_83_code
def yJ2_charAt_3b067 : MethodName := ⟨RJ2, "charAt", "([BI)C"⟩
abbrev cJ2_checkIndex_2214a : ByteArray := prog_18_method_91_code
def yJ2_checkIndex_2214a : MethodName := ⟨RJ2, "checkIndex", "(I[B)V"⟩
def RJ10 : String := "java/lang/System"
def TJ10 : u_T := fun k => match k with
  | _ => ("", "", "", false)
def tyJ10 : Nat → FieldType := fun k => match k with
  | _ => .int
abbrev wsJ100 : List Cond := u_ws RJ10 TJ10 0
theorem nmJ10 : ∀ a, a < 0 → ∀ b, b < 0 → a ≠ b → (TJ10 a).2.1 ≠ (TJ10 b).2.1 := by decide +kernel
theorem tyJ10_ok : ∀ k, k < 0 → parseFieldDescriptor (TJ10 k).2.2.1 = some (tyJ10 k) := by decide +kernel
def RJxfd54e : String := "java/lang/constant/Constable"
def TJxfd54e : u_T := fun k => match k with
  | _ => ("", "", "", false)
def tyJxfd54e : Nat → FieldType := fun k => match k with
  | _ => .int
abbrev wsJxfd54e0 : List Cond := u_ws RJxfd54e TJxfd54e 0
theorem nmJxfd54e : ∀ a, a < 0 → ∀ b, b < 0 → a ≠ b → (TJxfd54e a).2.1 ≠ (TJxfd54e b).2.1 := by decide +kernel
theorem tyJxfd54e_ok : ∀ k, k < 0 → parseFieldDescriptor (TJxfd54e k).2.2.1 = some (tyJxfd54e k) := by decide +kernel
def RJx3cf43 : String := "java/lang/constant/ConstantDesc"
def TJx3cf43 : u_T := fun k => match k with
  | _ => ("", "", "", false)
def tyJx3cf43 : Nat → FieldType := fun k => match k with
  | _ => .int
abbrev wsJx3cf430 : List Cond := u_ws RJx3cf43 TJx3cf43 0
theorem nmJx3cf43 : ∀ a, a < 0 → ∀ b, b < 0 → a ≠ b → (TJx3cf43 a).2.1 ≠ (TJx3cf43 b).2.1 := by decide +kernel
theorem tyJx3cf43_ok : ∀ k, k < 0 → parseFieldDescriptor (TJx3cf43 k).2.2.1 = some (tyJx3cf43 k) := by decide +kernel
def RJ7 : String := "java/util/Arrays"
def TJ7 : u_T := fun k => match k with
  | _ => ("", "", "", false)
def tyJ7 : Nat → FieldType := fun k => match k with
  | _ => .int
abbrev wsJ70 : List Cond := u_ws RJ7 TJ7 0
theorem nmJ7 : ∀ a, a < 0 → ∀ b, b < 0 → a ≠ b → (TJ7 a).2.1 ≠ (TJ7 b).2.1 := by decide +kernel
theorem tyJ7_ok : ∀ k, k < 0 → parseFieldDescriptor (TJ7 k).2.2.1 = some (tyJ7 k) := by decide +kernel
abbrev cJ7_fill_53178 : ByteArray := prog_20_method_103_code
def yJ7_fill_53178 : MethodName := ⟨RJ7, "fill", "([II)V"⟩
def RJ3 : String := "jdk/internal/util/Preconditions"
def TJ3 : u_T := fun k => match k with
  | _ => ("", "", "", false)
def tyJ3 : Nat → FieldType := fun k => match k with
  | _ => .int
abbrev wsJ30 : List Cond := u_ws RJ3 TJ3 0
theorem nmJ3 : ∀ a, a < 0 → ∀ b, b < 0 → a ≠ b → (TJ3 a).2.1 ≠ (TJ3 b).2.1 := by decide +kernel
theorem tyJ3_ok : ∀ k, k < 0 → parseFieldDescriptor (TJ3 k).2.2.1 = some (tyJ3 k) := by decide +kernel
abbrev cJ3_checkIndex_8e157 : ByteArray := prog_21_method_11_code
def yJ3_checkIndex_8e157 : MethodName := ⟨RJ3, "checkIndex", "(IILjava/util/function/BiFunction;)I"⟩
def RL : String := "SchoolRidesLaw"
abbrev cL_law : ByteArray := code
def yL_law : MethodName := ⟨RL, "law", "([I)Z"⟩
