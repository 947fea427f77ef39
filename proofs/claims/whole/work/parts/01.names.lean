-- ===== PART A: goes FIRST, ahead of the names: the tables' words, and 'selects' of the private methods out of them =====
/-- a private method of a class that the tables say can be made, by its rows of tables_1 -/
def lw_okq (q : MethodName × Nat) : Prop := (q.1.cls ≠ "java/lang/invoke/MethodHandle" ∧ q.1.cls ≠ "java/lang/invoke/VarHandle") ∧ Cond.instantiable q.1.cls q.2 ∈ tables_1 ∧ Cond.privateMethod q.1 ∈ tables_1 ∧ Cond.instanceMethod q.1 ∈ tables_1
theorem lw_p0 : lw_okq (⟨"PupilsPupil", "refuse", "(I)I"⟩, 16) := ⟨⟨by decide +kernel, by decide +kernel⟩, List.mem_of_getElem? (i := 21) (by decide +kernel), List.mem_of_getElem? (i := 453) (by decide +kernel), List.mem_of_getElem? (i := 454) (by decide +kernel)⟩
theorem lw_p1 : lw_okq (⟨"PupilsPupil", "deny", "(I)Z"⟩, 16) := ⟨⟨by decide +kernel, by decide +kernel⟩, List.mem_of_getElem? (i := 21) (by decide +kernel), List.mem_of_getElem? (i := 465) (by decide +kernel), List.mem_of_getElem? (i := 466) (by decide +kernel)⟩
theorem lw_p2 : lw_okq (⟨"PupilsPupil$SchoolReader", "readStatement", "()Z"⟩, 3) := ⟨⟨by decide +kernel, by decide +kernel⟩, List.mem_of_getElem? (i := 329) (by decide +kernel), List.mem_of_getElem? (i := 498) (by decide +kernel), List.mem_of_getElem? (i := 499) (by decide +kernel)⟩
theorem lw_p3 : lw_okq (⟨"PupilsPupil$SchoolReader", "readFact", "()Z"⟩, 3) := ⟨⟨by decide +kernel, by decide +kernel⟩, List.mem_of_getElem? (i := 329) (by decide +kernel), List.mem_of_getElem? (i := 523) (by decide +kernel), List.mem_of_getElem? (i := 524) (by decide +kernel)⟩
theorem lw_p4 : lw_okq (⟨"PupilsPupil$SchoolReader", "takeNewName", "()I"⟩, 3) := ⟨⟨by decide +kernel, by decide +kernel⟩, List.mem_of_getElem? (i := 329) (by decide +kernel), List.mem_of_getElem? (i := 532) (by decide +kernel), List.mem_of_getElem? (i := 533) (by decide +kernel)⟩
theorem lw_p5 : lw_okq (⟨"PupilsPupil$SchoolReader", "readPerson", "()Z"⟩, 3) := ⟨⟨by decide +kernel, by decide +kernel⟩, List.mem_of_getElem? (i := 329) (by decide +kernel), List.mem_of_getElem? (i := 560) (by decide +kernel), List.mem_of_getElem? (i := 561) (by decide +kernel)⟩
theorem lw_p6 : lw_okq (⟨"PupilsPupil$SchoolReader", "readBelief", "(I)Z"⟩, 3) := ⟨⟨by decide +kernel, by decide +kernel⟩, List.mem_of_getElem? (i := 329) (by decide +kernel), List.mem_of_getElem? (i := 566) (by decide +kernel), List.mem_of_getElem? (i := 567) (by decide +kernel)⟩
theorem lw_p7 : lw_okq (⟨"PupilsPupil$SchoolReader", "takeKnown", "([II)I"⟩, 3) := ⟨⟨by decide +kernel, by decide +kernel⟩, List.mem_of_getElem? (i := 329) (by decide +kernel), List.mem_of_getElem? (i := 570) (by decide +kernel), List.mem_of_getElem? (i := 571) (by decide +kernel)⟩
theorem lw_p8 : lw_okq (⟨"PupilsPupil$SchoolReader", "readTaught", "()Z"⟩, 3) := ⟨⟨by decide +kernel, by decide +kernel⟩, List.mem_of_getElem? (i := 329) (by decide +kernel), List.mem_of_getElem? (i := 588) (by decide +kernel), List.mem_of_getElem? (i := 589) (by decide +kernel)⟩
theorem lw_p9 : lw_okq (⟨"PupilsPupil$SchoolReader", "readLaw", "(II)Z"⟩, 3) := ⟨⟨by decide +kernel, by decide +kernel⟩, List.mem_of_getElem? (i := 329) (by decide +kernel), List.mem_of_getElem? (i := 607) (by decide +kernel), List.mem_of_getElem? (i := 608) (by decide +kernel)⟩
theorem lw_p10 : lw_okq (⟨"PupilsPupil$Grammar", "readTest", "(I)Z"⟩, 3) := ⟨⟨by decide +kernel, by decide +kernel⟩, List.mem_of_getElem? (i := 337) (by decide +kernel), List.mem_of_getElem? (i := 619) (by decide +kernel), List.mem_of_getElem? (i := 620) (by decide +kernel)⟩
theorem lw_p11 : lw_okq (⟨"PupilsPupil$Grammar", "readBoth", "(I)Z"⟩, 3) := ⟨⟨by decide +kernel, by decide +kernel⟩, List.mem_of_getElem? (i := 337) (by decide +kernel), List.mem_of_getElem? (i := 623) (by decide +kernel), List.mem_of_getElem? (i := 624) (by decide +kernel)⟩
theorem lw_p12 : lw_okq (⟨"PupilsPupil$Grammar", "readClaim", "(I)Z"⟩, 3) := ⟨⟨by decide +kernel, by decide +kernel⟩, List.mem_of_getElem? (i := 337) (by decide +kernel), List.mem_of_getElem? (i := 627) (by decide +kernel), List.mem_of_getElem? (i := 628) (by decide +kernel)⟩
theorem lw_p13 : lw_okq (⟨"PupilsPupil$Grammar", "opens", "(I)Z"⟩, 3) := ⟨⟨by decide +kernel, by decide +kernel⟩, List.mem_of_getElem? (i := 337) (by decide +kernel), List.mem_of_getElem? (i := 634) (by decide +kernel), List.mem_of_getElem? (i := 635) (by decide +kernel)⟩
theorem lw_p14 : lw_okq (⟨"PupilsPupil$Grammar", "readSum", "(I)Z"⟩, 3) := ⟨⟨by decide +kernel, by decide +kernel⟩, List.mem_of_getElem? (i := 337) (by decide +kernel), List.mem_of_getElem? (i := 651) (by decide +kernel), List.mem_of_getElem? (i := 652) (by decide +kernel)⟩
theorem lw_p15 : lw_okq (⟨"PupilsPupil$Grammar", "readProduct", "(I)Z"⟩, 3) := ⟨⟨by decide +kernel, by decide +kernel⟩, List.mem_of_getElem? (i := 337) (by decide +kernel), List.mem_of_getElem? (i := 655) (by decide +kernel), List.mem_of_getElem? (i := 656) (by decide +kernel)⟩
def lw_privs_1 : List (MethodName × Nat) := [(⟨"PupilsPupil", "refuse", "(I)I"⟩, 16), (⟨"PupilsPupil", "deny", "(I)Z"⟩, 16), (⟨"PupilsPupil$SchoolReader", "readStatement", "()Z"⟩, 3), (⟨"PupilsPupil$SchoolReader", "readFact", "()Z"⟩, 3), (⟨"PupilsPupil$SchoolReader", "takeNewName", "()I"⟩, 3), (⟨"PupilsPupil$SchoolReader", "readPerson", "()Z"⟩, 3), (⟨"PupilsPupil$SchoolReader", "readBelief", "(I)Z"⟩, 3), (⟨"PupilsPupil$SchoolReader", "takeKnown", "([II)I"⟩, 3), (⟨"PupilsPupil$SchoolReader", "readTaught", "()Z"⟩, 3), (⟨"PupilsPupil$SchoolReader", "readLaw", "(II)Z"⟩, 3), (⟨"PupilsPupil$Grammar", "readTest", "(I)Z"⟩, 3), (⟨"PupilsPupil$Grammar", "readBoth", "(I)Z"⟩, 3), (⟨"PupilsPupil$Grammar", "readClaim", "(I)Z"⟩, 3), (⟨"PupilsPupil$Grammar", "opens", "(I)Z"⟩, 3), (⟨"PupilsPupil$Grammar", "readSum", "(I)Z"⟩, 3), (⟨"PupilsPupil$Grammar", "readProduct", "(I)Z"⟩, 3)]
theorem lw_r1 : ∀ q ∈ lw_privs_1, lw_okq q := List.forall_mem_cons.mpr ⟨lw_p0, List.forall_mem_cons.mpr ⟨lw_p1, List.forall_mem_cons.mpr ⟨lw_p2, List.forall_mem_cons.mpr ⟨lw_p3, List.forall_mem_cons.mpr ⟨lw_p4, List.forall_mem_cons.mpr ⟨lw_p5, List.forall_mem_cons.mpr ⟨lw_p6, List.forall_mem_cons.mpr ⟨lw_p7, List.forall_mem_cons.mpr ⟨lw_p8, List.forall_mem_cons.mpr ⟨lw_p9, List.forall_mem_cons.mpr ⟨lw_p10, List.forall_mem_cons.mpr ⟨lw_p11, List.forall_mem_cons.mpr ⟨lw_p12, List.forall_mem_cons.mpr ⟨lw_p13, List.forall_mem_cons.mpr ⟨lw_p14, List.forall_mem_cons.mpr ⟨lw_p15, fun _ h => absurd h List.not_mem_nil⟩⟩⟩⟩⟩⟩⟩⟩⟩⟩⟩⟩⟩⟩⟩⟩
theorem lw_p16 : lw_okq (⟨"PupilsPupil$Grammar", "readPart", "(I)Z"⟩, 3) := ⟨⟨by decide +kernel, by decide +kernel⟩, List.mem_of_getElem? (i := 337) (by decide +kernel), List.mem_of_getElem? (i := 659) (by decide +kernel), List.mem_of_getElem? (i := 660) (by decide +kernel)⟩
theorem lw_p17 : lw_okq (⟨"PupilsPupil$Grammar", "readPair", "(II)Z"⟩, 3) := ⟨⟨by decide +kernel, by decide +kernel⟩, List.mem_of_getElem? (i := 337) (by decide +kernel), List.mem_of_getElem? (i := 669) (by decide +kernel), List.mem_of_getElem? (i := 670) (by decide +kernel)⟩
theorem lw_p18 : lw_okq (⟨"PupilsPupil$SchoolReader", "readEnough", "()Z"⟩, 3) := ⟨⟨by decide +kernel, by decide +kernel⟩, List.mem_of_getElem? (i := 329) (by decide +kernel), List.mem_of_getElem? (i := 688) (by decide +kernel), List.mem_of_getElem? (i := 689) (by decide +kernel)⟩
theorem lw_p19 : lw_okq (⟨"PupilsPupil$SchoolReader", "readTries", "()Z"⟩, 3) := ⟨⟨by decide +kernel, by decide +kernel⟩, List.mem_of_getElem? (i := 329) (by decide +kernel), List.mem_of_getElem? (i := 692) (by decide +kernel), List.mem_of_getElem? (i := 693) (by decide +kernel)⟩
theorem lw_p20 : lw_okq (⟨"PupilsPupil$SchoolReader", "readIllness", "()Z"⟩, 3) := ⟨⟨by decide +kernel, by decide +kernel⟩, List.mem_of_getElem? (i := 329) (by decide +kernel), List.mem_of_getElem? (i := 696) (by decide +kernel), List.mem_of_getElem? (i := 697) (by decide +kernel)⟩
theorem lw_p21 : lw_okq (⟨"PupilsPupil", "forgetPast", "()V"⟩, 16) := ⟨⟨by decide +kernel, by decide +kernel⟩, List.mem_of_getElem? (i := 21) (by decide +kernel), List.mem_of_getElem? (i := 719) (by decide +kernel), List.mem_of_getElem? (i := 720) (by decide +kernel)⟩
theorem lw_p22 : lw_okq (⟨"PupilsPupil", "isFact", "(I)Z"⟩, 16) := ⟨⟨by decide +kernel, by decide +kernel⟩, List.mem_of_getElem? (i := 21) (by decide +kernel), List.mem_of_getElem? (i := 744) (by decide +kernel), List.mem_of_getElem? (i := 745) (by decide +kernel)⟩
theorem lw_p23 : lw_okq (⟨"PupilsPupil", "isPerson", "(I)Z"⟩, 16) := ⟨⟨by decide +kernel, by decide +kernel⟩, List.mem_of_getElem? (i := 21) (by decide +kernel), List.mem_of_getElem? (i := 748) (by decide +kernel), List.mem_of_getElem? (i := 749) (by decide +kernel)⟩
theorem lw_p24 : lw_okq (⟨"PupilsPupil$Calendar", "fillLesson", "(LPupilsPupil$State;II)V"⟩, 4) := ⟨⟨by decide +kernel, by decide +kernel⟩, List.mem_of_getElem? (i := 239) (by decide +kernel), List.mem_of_getElem? (i := 792) (by decide +kernel), List.mem_of_getElem? (i := 793) (by decide +kernel)⟩
theorem lw_p25 : lw_okq (⟨"PupilsPupil$Calendar", "fillPerson", "(LPupilsPupil$State;I)V"⟩, 4) := ⟨⟨by decide +kernel, by decide +kernel⟩, List.mem_of_getElem? (i := 239) (by decide +kernel), List.mem_of_getElem? (i := 797) (by decide +kernel), List.mem_of_getElem? (i := 798) (by decide +kernel)⟩
theorem lw_p26 : lw_okq (⟨"PupilsPupil$Calendar", "beliefTaken", "(LPupilsPupil$State;II)I"⟩, 4) := ⟨⟨by decide +kernel, by decide +kernel⟩, List.mem_of_getElem? (i := 239) (by decide +kernel), List.mem_of_getElem? (i := 848) (by decide +kernel), List.mem_of_getElem? (i := 849) (by decide +kernel)⟩
theorem lw_p27 : lw_okq (⟨"PupilsPupil$Calendar", "examine", "(LPupilsPupil$State;I)I"⟩, 4) := ⟨⟨by decide +kernel, by decide +kernel⟩, List.mem_of_getElem? (i := 239) (by decide +kernel), List.mem_of_getElem? (i := 854) (by decide +kernel), List.mem_of_getElem? (i := 855) (by decide +kernel)⟩
theorem lw_p28 : lw_okq (⟨"PupilsPupil$Calendar", "nameDoctors", "(LPupilsPupil$State;)V"⟩, 4) := ⟨⟨by decide +kernel, by decide +kernel⟩, List.mem_of_getElem? (i := 239) (by decide +kernel), List.mem_of_getElem? (i := 863) (by decide +kernel), List.mem_of_getElem? (i := 864) (by decide +kernel)⟩
theorem lw_p29 : lw_okq (⟨"PupilsPupil$Foresight", "horizon", "()I"⟩, 6) := ⟨⟨by decide +kernel, by decide +kernel⟩, List.mem_of_getElem? (i := 258) (by decide +kernel), List.mem_of_getElem? (i := 875) (by decide +kernel), List.mem_of_getElem? (i := 876) (by decide +kernel)⟩
theorem lw_p30 : lw_okq (⟨"PupilsPupil$Foresight", "runToDoctor", "(II)I"⟩, 6) := ⟨⟨by decide +kernel, by decide +kernel⟩, List.mem_of_getElem? (i := 258) (by decide +kernel), List.mem_of_getElem? (i := 882) (by decide +kernel), List.mem_of_getElem? (i := 883) (by decide +kernel)⟩
theorem lw_p31 : lw_okq (⟨"PupilsPupil$Foresight", "yearsToPass", "(III)I"⟩, 6) := ⟨⟨by decide +kernel, by decide +kernel⟩, List.mem_of_getElem? (i := 258) (by decide +kernel), List.mem_of_getElem? (i := 908) (by decide +kernel), List.mem_of_getElem? (i := 909) (by decide +kernel)⟩
def lw_privs_2 : List (MethodName × Nat) := [(⟨"PupilsPupil$Grammar", "readPart", "(I)Z"⟩, 3), (⟨"PupilsPupil$Grammar", "readPair", "(II)Z"⟩, 3), (⟨"PupilsPupil$SchoolReader", "readEnough", "()Z"⟩, 3), (⟨"PupilsPupil$SchoolReader", "readTries", "()Z"⟩, 3), (⟨"PupilsPupil$SchoolReader", "readIllness", "()Z"⟩, 3), (⟨"PupilsPupil", "forgetPast", "()V"⟩, 16), (⟨"PupilsPupil", "isFact", "(I)Z"⟩, 16), (⟨"PupilsPupil", "isPerson", "(I)Z"⟩, 16), (⟨"PupilsPupil$Calendar", "fillLesson", "(LPupilsPupil$State;II)V"⟩, 4), (⟨"PupilsPupil$Calendar", "fillPerson", "(LPupilsPupil$State;I)V"⟩, 4), (⟨"PupilsPupil$Calendar", "beliefTaken", "(LPupilsPupil$State;II)I"⟩, 4), (⟨"PupilsPupil$Calendar", "examine", "(LPupilsPupil$State;I)I"⟩, 4), (⟨"PupilsPupil$Calendar", "nameDoctors", "(LPupilsPupil$State;)V"⟩, 4), (⟨"PupilsPupil$Foresight", "horizon", "()I"⟩, 6), (⟨"PupilsPupil$Foresight", "runToDoctor", "(II)I"⟩, 6), (⟨"PupilsPupil$Foresight", "yearsToPass", "(III)I"⟩, 6)]
theorem lw_r2 : ∀ q ∈ lw_privs_2, lw_okq q := List.forall_mem_cons.mpr ⟨lw_p16, List.forall_mem_cons.mpr ⟨lw_p17, List.forall_mem_cons.mpr ⟨lw_p18, List.forall_mem_cons.mpr ⟨lw_p19, List.forall_mem_cons.mpr ⟨lw_p20, List.forall_mem_cons.mpr ⟨lw_p21, List.forall_mem_cons.mpr ⟨lw_p22, List.forall_mem_cons.mpr ⟨lw_p23, List.forall_mem_cons.mpr ⟨lw_p24, List.forall_mem_cons.mpr ⟨lw_p25, List.forall_mem_cons.mpr ⟨lw_p26, List.forall_mem_cons.mpr ⟨lw_p27, List.forall_mem_cons.mpr ⟨lw_p28, List.forall_mem_cons.mpr ⟨lw_p29, List.forall_mem_cons.mpr ⟨lw_p30, List.forall_mem_cons.mpr ⟨lw_p31, fun _ h => absurd h List.not_mem_nil⟩⟩⟩⟩⟩⟩⟩⟩⟩⟩⟩⟩⟩⟩⟩⟩
theorem lw_p32 : lw_okq (⟨"PupilsPupil$Foresight", "doctorsWith", "(II)I"⟩, 6) := ⟨⟨by decide +kernel, by decide +kernel⟩, List.mem_of_getElem? (i := 258) (by decide +kernel), List.mem_of_getElem? (i := 931) (by decide +kernel), List.mem_of_getElem? (i := 932) (by decide +kernel)⟩
theorem lw_p33 : lw_okq (⟨"PupilsPupil$Rumour", "supposeSource", "(IIII)V"⟩, 10) := ⟨⟨by decide +kernel, by decide +kernel⟩, List.mem_of_getElem? (i := 287) (by decide +kernel), List.mem_of_getElem? (i := 958) (by decide +kernel), List.mem_of_getElem? (i := 959) (by decide +kernel)⟩
theorem lw_p34 : lw_okq (⟨"PupilsPupil$Rumour", "agrees", "(I)Z"⟩, 10) := ⟨⟨by decide +kernel, by decide +kernel⟩, List.mem_of_getElem? (i := 287) (by decide +kernel), List.mem_of_getElem? (i := 965) (by decide +kernel), List.mem_of_getElem? (i := 966) (by decide +kernel)⟩
theorem lw_p35 : lw_okq (⟨"PupilsPupil$Rumour", "noteHolders", "(II)V"⟩, 10) := ⟨⟨by decide +kernel, by decide +kernel⟩, List.mem_of_getElem? (i := 287) (by decide +kernel), List.mem_of_getElem? (i := 970) (by decide +kernel), List.mem_of_getElem? (i := 971) (by decide +kernel)⟩
theorem lw_p36 : lw_okq (⟨"PupilsPupil$Rumour", "mostLeft", "(II)I"⟩, 10) := ⟨⟨by decide +kernel, by decide +kernel⟩, List.mem_of_getElem? (i := 287) (by decide +kernel), List.mem_of_getElem? (i := 983) (by decide +kernel), List.mem_of_getElem? (i := 984) (by decide +kernel)⟩
theorem lw_p37 : lw_okq (⟨"PupilsPupil", "isParted", "(III)Z"⟩, 16) := ⟨⟨by decide +kernel, by decide +kernel⟩, List.mem_of_getElem? (i := 21) (by decide +kernel), List.mem_of_getElem? (i := 992) (by decide +kernel), List.mem_of_getElem? (i := 993) (by decide +kernel)⟩
theorem lw_p38 : lw_okq (⟨"PupilsPupil", "remember", "()V"⟩, 16) := ⟨⟨by decide +kernel, by decide +kernel⟩, List.mem_of_getElem? (i := 21) (by decide +kernel), List.mem_of_getElem? (i := 1003) (by decide +kernel), List.mem_of_getElem? (i := 1004) (by decide +kernel)⟩
theorem lw_p39 : lw_okq (⟨"PupilsPupil", "canRun", "(I)Z"⟩, 16) := ⟨⟨by decide +kernel, by decide +kernel⟩, List.mem_of_getElem? (i := 21) (by decide +kernel), List.mem_of_getElem? (i := 1016) (by decide +kernel), List.mem_of_getElem? (i := 1017) (by decide +kernel)⟩
theorem lw_p40 : lw_okq (⟨"PupilsPupil", "drawIll", "()I"⟩, 16) := ⟨⟨by decide +kernel, by decide +kernel⟩, List.mem_of_getElem? (i := 21) (by decide +kernel), List.mem_of_getElem? (i := 1025) (by decide +kernel), List.mem_of_getElem? (i := 1026) (by decide +kernel)⟩
theorem lw_p41 : lw_okq (⟨"PupilsPupil$Question", "fillSlots", "(II)V"⟩, 7) := ⟨⟨by decide +kernel, by decide +kernel⟩, List.mem_of_getElem? (i := 366) (by decide +kernel), List.mem_of_getElem? (i := 1072) (by decide +kernel), List.mem_of_getElem? (i := 1073) (by decide +kernel)⟩
theorem lw_p42 : lw_okq (⟨"PupilsPupil$State", "readRow", "(LPupilsPupil$Text;ILPupilsPupil$School;)Z"⟩, 9) := ⟨⟨by decide +kernel, by decide +kernel⟩, List.mem_of_getElem? (i := 102) (by decide +kernel), List.mem_of_getElem? (i := 1113) (by decide +kernel), List.mem_of_getElem? (i := 1114) (by decide +kernel)⟩
theorem lw_p43 : lw_okq (⟨"PupilsPupilModel", "look", "()I"⟩, 105) := ⟨⟨by decide +kernel, by decide +kernel⟩, List.mem_of_getElem? (i := 1122) (by decide +kernel), List.mem_of_getElem? (i := 1458) (by decide +kernel), List.mem_of_getElem? (i := 1459) (by decide +kernel)⟩
theorem lw_p44 : lw_okq (⟨"PupilsPupilModel", "statementTold", "()V"⟩, 105) := ⟨⟨by decide +kernel, by decide +kernel⟩, List.mem_of_getElem? (i := 1122) (by decide +kernel), List.mem_of_getElem? (i := 1462) (by decide +kernel), List.mem_of_getElem? (i := 1463) (by decide +kernel)⟩
theorem lw_p45 : lw_okq (⟨"PupilsPupilModel", "fail", "(II)V"⟩, 105) := ⟨⟨by decide +kernel, by decide +kernel⟩, List.mem_of_getElem? (i := 1122) (by decide +kernel), List.mem_of_getElem? (i := 1466) (by decide +kernel), List.mem_of_getElem? (i := 1467) (by decide +kernel)⟩
theorem lw_p46 : lw_okq (⟨"PupilsPupilModel", "takes", "([C)Z"⟩, 105) := ⟨⟨by decide +kernel, by decide +kernel⟩, List.mem_of_getElem? (i := 1122) (by decide +kernel), List.mem_of_getElem? (i := 1470) (by decide +kernel), List.mem_of_getElem? (i := 1471) (by decide +kernel)⟩
theorem lw_p47 : lw_okq (⟨"PupilsPupilModel", "isHere", "([C)Z"⟩, 105) := ⟨⟨by decide +kernel, by decide +kernel⟩, List.mem_of_getElem? (i := 1122) (by decide +kernel), List.mem_of_getElem? (i := 1474) (by decide +kernel), List.mem_of_getElem? (i := 1475) (by decide +kernel)⟩
def lw_privs_3 : List (MethodName × Nat) := [(⟨"PupilsPupil$Foresight", "doctorsWith", "(II)I"⟩, 6), (⟨"PupilsPupil$Rumour", "supposeSource", "(IIII)V"⟩, 10), (⟨"PupilsPupil$Rumour", "agrees", "(I)Z"⟩, 10), (⟨"PupilsPupil$Rumour", "noteHolders", "(II)V"⟩, 10), (⟨"PupilsPupil$Rumour", "mostLeft", "(II)I"⟩, 10), (⟨"PupilsPupil", "isParted", "(III)Z"⟩, 16), (⟨"PupilsPupil", "remember", "()V"⟩, 16), (⟨"PupilsPupil", "canRun", "(I)Z"⟩, 16), (⟨"PupilsPupil", "drawIll", "()I"⟩, 16), (⟨"PupilsPupil$Question", "fillSlots", "(II)V"⟩, 7), (⟨"PupilsPupil$State", "readRow", "(LPupilsPupil$Text;ILPupilsPupil$School;)Z"⟩, 9), (⟨"PupilsPupilModel", "look", "()I"⟩, 105), (⟨"PupilsPupilModel", "statementTold", "()V"⟩, 105), (⟨"PupilsPupilModel", "fail", "(II)V"⟩, 105), (⟨"PupilsPupilModel", "takes", "([C)Z"⟩, 105), (⟨"PupilsPupilModel", "isHere", "([C)Z"⟩, 105)]
theorem lw_r3 : ∀ q ∈ lw_privs_3, lw_okq q := List.forall_mem_cons.mpr ⟨lw_p32, List.forall_mem_cons.mpr ⟨lw_p33, List.forall_mem_cons.mpr ⟨lw_p34, List.forall_mem_cons.mpr ⟨lw_p35, List.forall_mem_cons.mpr ⟨lw_p36, List.forall_mem_cons.mpr ⟨lw_p37, List.forall_mem_cons.mpr ⟨lw_p38, List.forall_mem_cons.mpr ⟨lw_p39, List.forall_mem_cons.mpr ⟨lw_p40, List.forall_mem_cons.mpr ⟨lw_p41, List.forall_mem_cons.mpr ⟨lw_p42, List.forall_mem_cons.mpr ⟨lw_p43, List.forall_mem_cons.mpr ⟨lw_p44, List.forall_mem_cons.mpr ⟨lw_p45, List.forall_mem_cons.mpr ⟨lw_p46, List.forall_mem_cons.mpr ⟨lw_p47, fun _ h => absurd h List.not_mem_nil⟩⟩⟩⟩⟩⟩⟩⟩⟩⟩⟩⟩⟩⟩⟩⟩
theorem lw_p48 : lw_okq (⟨"PupilsPupilModel", "factTold", "(I)V"⟩, 105) := ⟨⟨by decide +kernel, by decide +kernel⟩, List.mem_of_getElem? (i := 1122) (by decide +kernel), List.mem_of_getElem? (i := 1481) (by decide +kernel), List.mem_of_getElem? (i := 1482) (by decide +kernel)⟩
theorem lw_p49 : lw_okq (⟨"PupilsPupilModel", "isFull", "(III)Z"⟩, 105) := ⟨⟨by decide +kernel, by decide +kernel⟩, List.mem_of_getElem? (i := 1122) (by decide +kernel), List.mem_of_getElem? (i := 1485) (by decide +kernel), List.mem_of_getElem? (i := 1486) (by decide +kernel)⟩
theorem lw_p50 : lw_okq (⟨"PupilsPupilModel", "newName", "()J"⟩, 105) := ⟨⟨by decide +kernel, by decide +kernel⟩, List.mem_of_getElem? (i := 1122) (by decide +kernel), List.mem_of_getElem? (i := 1489) (by decide +kernel), List.mem_of_getElem? (i := 1490) (by decide +kernel)⟩
theorem lw_p51 : lw_okq (⟨"PupilsPupilModel", "name", "()J"⟩, 105) := ⟨⟨by decide +kernel, by decide +kernel⟩, List.mem_of_getElem? (i := 1122) (by decide +kernel), List.mem_of_getElem? (i := 1493) (by decide +kernel), List.mem_of_getElem? (i := 1494) (by decide +kernel)⟩
theorem lw_p52 : lw_okq (⟨"PupilsPupilModel", "isOwnHere", "()Z"⟩, 105) := ⟨⟨by decide +kernel, by decide +kernel⟩, List.mem_of_getElem? (i := 1122) (by decide +kernel), List.mem_of_getElem? (i := 1497) (by decide +kernel), List.mem_of_getElem? (i := 1498) (by decide +kernel)⟩
theorem lw_p53 : lw_okq (⟨"PupilsPupilModel", "nameOf", "(IJ)I"⟩, 105) := ⟨⟨by decide +kernel, by decide +kernel⟩, List.mem_of_getElem? (i := 1122) (by decide +kernel), List.mem_of_getElem? (i := 1503) (by decide +kernel), List.mem_of_getElem? (i := 1504) (by decide +kernel)⟩
theorem lw_p54 : lw_okq (⟨"PupilsPupilModel", "asks", "([C)V"⟩, 105) := ⟨⟨by decide +kernel, by decide +kernel⟩, List.mem_of_getElem? (i := 1122) (by decide +kernel), List.mem_of_getElem? (i := 1507) (by decide +kernel), List.mem_of_getElem? (i := 1508) (by decide +kernel)⟩
theorem lw_p55 : lw_okq (⟨"PupilsPupilModel", "number", "(II)I"⟩, 105) := ⟨⟨by decide +kernel, by decide +kernel⟩, List.mem_of_getElem? (i := 1122) (by decide +kernel), List.mem_of_getElem? (i := 1511) (by decide +kernel), List.mem_of_getElem? (i := 1512) (by decide +kernel)⟩
theorem lw_p56 : lw_okq (⟨"PupilsPupilModel", "personTold", "(I)V"⟩, 105) := ⟨⟨by decide +kernel, by decide +kernel⟩, List.mem_of_getElem? (i := 1122) (by decide +kernel), List.mem_of_getElem? (i := 1521) (by decide +kernel), List.mem_of_getElem? (i := 1522) (by decide +kernel)⟩
theorem lw_p57 : lw_okq (⟨"PupilsPupilModel", "beliefTold", "(Z)V"⟩, 105) := ⟨⟨by decide +kernel, by decide +kernel⟩, List.mem_of_getElem? (i := 1122) (by decide +kernel), List.mem_of_getElem? (i := 1525) (by decide +kernel), List.mem_of_getElem? (i := 1526) (by decide +kernel)⟩
theorem lw_p58 : lw_okq (⟨"PupilsPupilModel", "oneOf", "(I)I"⟩, 105) := ⟨⟨by decide +kernel, by decide +kernel⟩, List.mem_of_getElem? (i := 1122) (by decide +kernel), List.mem_of_getElem? (i := 1529) (by decide +kernel), List.mem_of_getElem? (i := 1530) (by decide +kernel)⟩
theorem lw_p59 : lw_okq (⟨"PupilsPupilModel", "taughtTold", "()V"⟩, 105) := ⟨⟨by decide +kernel, by decide +kernel⟩, List.mem_of_getElem? (i := 1122) (by decide +kernel), List.mem_of_getElem? (i := 1533) (by decide +kernel), List.mem_of_getElem? (i := 1534) (by decide +kernel)⟩
theorem lw_p60 : lw_okq (⟨"PupilsPupilModel", "codesTold", "(II)V"⟩, 105) := ⟨⟨by decide +kernel, by decide +kernel⟩, List.mem_of_getElem? (i := 1122) (by decide +kernel), List.mem_of_getElem? (i := 1537) (by decide +kernel), List.mem_of_getElem? (i := 1538) (by decide +kernel)⟩
theorem lw_p61 : lw_okq (⟨"PupilsPupilModel", "qTest", "()V"⟩, 105) := ⟨⟨by decide +kernel, by decide +kernel⟩, List.mem_of_getElem? (i := 1122) (by decide +kernel), List.mem_of_getElem? (i := 1541) (by decide +kernel), List.mem_of_getElem? (i := 1542) (by decide +kernel)⟩
theorem lw_p62 : lw_okq (⟨"PupilsPupilModel", "qOpens", "(II)V"⟩, 105) := ⟨⟨by decide +kernel, by decide +kernel⟩, List.mem_of_getElem? (i := 1122) (by decide +kernel), List.mem_of_getElem? (i := 1545) (by decide +kernel), List.mem_of_getElem? (i := 1546) (by decide +kernel)⟩
theorem lw_p63 : lw_okq (⟨"PupilsPupilModel", "qFact", "()V"⟩, 105) := ⟨⟨by decide +kernel, by decide +kernel⟩, List.mem_of_getElem? (i := 1122) (by decide +kernel), List.mem_of_getElem? (i := 1549) (by decide +kernel), List.mem_of_getElem? (i := 1550) (by decide +kernel)⟩
def lw_privs_4 : List (MethodName × Nat) := [(⟨"PupilsPupilModel", "factTold", "(I)V"⟩, 105), (⟨"PupilsPupilModel", "isFull", "(III)Z"⟩, 105), (⟨"PupilsPupilModel", "newName", "()J"⟩, 105), (⟨"PupilsPupilModel", "name", "()J"⟩, 105), (⟨"PupilsPupilModel", "isOwnHere", "()Z"⟩, 105), (⟨"PupilsPupilModel", "nameOf", "(IJ)I"⟩, 105), (⟨"PupilsPupilModel", "asks", "([C)V"⟩, 105), (⟨"PupilsPupilModel", "number", "(II)I"⟩, 105), (⟨"PupilsPupilModel", "personTold", "(I)V"⟩, 105), (⟨"PupilsPupilModel", "beliefTold", "(Z)V"⟩, 105), (⟨"PupilsPupilModel", "oneOf", "(I)I"⟩, 105), (⟨"PupilsPupilModel", "taughtTold", "()V"⟩, 105), (⟨"PupilsPupilModel", "codesTold", "(II)V"⟩, 105), (⟨"PupilsPupilModel", "qTest", "()V"⟩, 105), (⟨"PupilsPupilModel", "qOpens", "(II)V"⟩, 105), (⟨"PupilsPupilModel", "qFact", "()V"⟩, 105)]
theorem lw_r4 : ∀ q ∈ lw_privs_4, lw_okq q := List.forall_mem_cons.mpr ⟨lw_p48, List.forall_mem_cons.mpr ⟨lw_p49, List.forall_mem_cons.mpr ⟨lw_p50, List.forall_mem_cons.mpr ⟨lw_p51, List.forall_mem_cons.mpr ⟨lw_p52, List.forall_mem_cons.mpr ⟨lw_p53, List.forall_mem_cons.mpr ⟨lw_p54, List.forall_mem_cons.mpr ⟨lw_p55, List.forall_mem_cons.mpr ⟨lw_p56, List.forall_mem_cons.mpr ⟨lw_p57, List.forall_mem_cons.mpr ⟨lw_p58, List.forall_mem_cons.mpr ⟨lw_p59, List.forall_mem_cons.mpr ⟨lw_p60, List.forall_mem_cons.mpr ⟨lw_p61, List.forall_mem_cons.mpr ⟨lw_p62, List.forall_mem_cons.mpr ⟨lw_p63, fun _ h => absurd h List.not_mem_nil⟩⟩⟩⟩⟩⟩⟩⟩⟩⟩⟩⟩⟩⟩⟩⟩
theorem lw_p64 : lw_okq (⟨"PupilsPupilModel", "qCode", "(I)V"⟩, 105) := ⟨⟨by decide +kernel, by decide +kernel⟩, List.mem_of_getElem? (i := 1122) (by decide +kernel), List.mem_of_getElem? (i := 1553) (by decide +kernel), List.mem_of_getElem? (i := 1554) (by decide +kernel)⟩
theorem lw_p65 : lw_okq (⟨"PupilsPupilModel", "qSums", "()V"⟩, 105) := ⟨⟨by decide +kernel, by decide +kernel⟩, List.mem_of_getElem? (i := 1122) (by decide +kernel), List.mem_of_getElem? (i := 1557) (by decide +kernel), List.mem_of_getElem? (i := 1558) (by decide +kernel)⟩
theorem lw_p66 : lw_okq (⟨"PupilsPupilModel", "qPartTold", "()V"⟩, 105) := ⟨⟨by decide +kernel, by decide +kernel⟩, List.mem_of_getElem? (i := 1122) (by decide +kernel), List.mem_of_getElem? (i := 1561) (by decide +kernel), List.mem_of_getElem? (i := 1562) (by decide +kernel)⟩
theorem lw_p67 : lw_okq (⟨"PupilsPupilModel", "qWordOf", "(II)I"⟩, 105) := ⟨⟨by decide +kernel, by decide +kernel⟩, List.mem_of_getElem? (i := 1122) (by decide +kernel), List.mem_of_getElem? (i := 1565) (by decide +kernel), List.mem_of_getElem? (i := 1566) (by decide +kernel)⟩
theorem lw_p68 : lw_okq (⟨"PupilsPupilModel", "qWordHere", "()I"⟩, 105) := ⟨⟨by decide +kernel, by decide +kernel⟩, List.mem_of_getElem? (i := 1122) (by decide +kernel), List.mem_of_getElem? (i := 1569) (by decide +kernel), List.mem_of_getElem? (i := 1570) (by decide +kernel)⟩
theorem lw_p69 : lw_okq (⟨"PupilsPupilModel", "isAllowed", "(I)Z"⟩, 105) := ⟨⟨by decide +kernel, by decide +kernel⟩, List.mem_of_getElem? (i := 1122) (by decide +kernel), List.mem_of_getElem? (i := 1573) (by decide +kernel), List.mem_of_getElem? (i := 1574) (by decide +kernel)⟩
theorem lw_p70 : lw_okq (⟨"PupilsPupilModel", "asksSign", "(I)V"⟩, 105) := ⟨⟨by decide +kernel, by decide +kernel⟩, List.mem_of_getElem? (i := 1122) (by decide +kernel), List.mem_of_getElem? (i := 1577) (by decide +kernel), List.mem_of_getElem? (i := 1578) (by decide +kernel)⟩
theorem lw_p71 : lw_okq (⟨"PupilsPupilModel", "takesSign", "(I)Z"⟩, 105) := ⟨⟨by decide +kernel, by decide +kernel⟩, List.mem_of_getElem? (i := 1122) (by decide +kernel), List.mem_of_getElem? (i := 1581) (by decide +kernel), List.mem_of_getElem? (i := 1582) (by decide +kernel)⟩
theorem lw_p72 : lw_okq (⟨"PupilsPupilModel", "qAsksWord", "(I)V"⟩, 105) := ⟨⟨by decide +kernel, by decide +kernel⟩, List.mem_of_getElem? (i := 1122) (by decide +kernel), List.mem_of_getElem? (i := 1585) (by decide +kernel), List.mem_of_getElem? (i := 1586) (by decide +kernel)⟩
theorem lw_p73 : lw_okq (⟨"PupilsPupilModel", "qEndsPart", "()V"⟩, 105) := ⟨⟨by decide +kernel, by decide +kernel⟩, List.mem_of_getElem? (i := 1122) (by decide +kernel), List.mem_of_getElem? (i := 1589) (by decide +kernel), List.mem_of_getElem? (i := 1590) (by decide +kernel)⟩
theorem lw_p74 : lw_okq (⟨"PupilsPupilModel", "qDrops", "()V"⟩, 105) := ⟨⟨by decide +kernel, by decide +kernel⟩, List.mem_of_getElem? (i := 1122) (by decide +kernel), List.mem_of_getElem? (i := 1593) (by decide +kernel), List.mem_of_getElem? (i := 1594) (by decide +kernel)⟩
theorem lw_p75 : lw_okq (⟨"PupilsPupilModel", "qGoesOn", "()Z"⟩, 105) := ⟨⟨by decide +kernel, by decide +kernel⟩, List.mem_of_getElem? (i := 1122) (by decide +kernel), List.mem_of_getElem? (i := 1597) (by decide +kernel), List.mem_of_getElem? (i := 1598) (by decide +kernel)⟩
theorem lw_p76 : lw_okq (⟨"PupilsPupilModel", "qBracket", "()I"⟩, 105) := ⟨⟨by decide +kernel, by decide +kernel⟩, List.mem_of_getElem? (i := 1122) (by decide +kernel), List.mem_of_getElem? (i := 1601) (by decide +kernel), List.mem_of_getElem? (i := 1602) (by decide +kernel)⟩
theorem lw_p77 : lw_okq (⟨"PupilsPupilModel", "qDropsToBracket", "()V"⟩, 105) := ⟨⟨by decide +kernel, by decide +kernel⟩, List.mem_of_getElem? (i := 1122) (by decide +kernel), List.mem_of_getElem? (i := 1608) (by decide +kernel), List.mem_of_getElem? (i := 1609) (by decide +kernel)⟩
theorem lw_p78 : lw_okq (⟨"PupilsPupilModel", "qIsOn", "(I)Z"⟩, 105) := ⟨⟨by decide +kernel, by decide +kernel⟩, List.mem_of_getElem? (i := 1122) (by decide +kernel), List.mem_of_getElem? (i := 1612) (by decide +kernel), List.mem_of_getElem? (i := 1613) (by decide +kernel)⟩
theorem lw_p79 : lw_okq (⟨"PupilsPupilModel", "qDropsNots", "()V"⟩, 105) := ⟨⟨by decide +kernel, by decide +kernel⟩, List.mem_of_getElem? (i := 1122) (by decide +kernel), List.mem_of_getElem? (i := 1616) (by decide +kernel), List.mem_of_getElem? (i := 1617) (by decide +kernel)⟩
def lw_privs_5 : List (MethodName × Nat) := [(⟨"PupilsPupilModel", "qCode", "(I)V"⟩, 105), (⟨"PupilsPupilModel", "qSums", "()V"⟩, 105), (⟨"PupilsPupilModel", "qPartTold", "()V"⟩, 105), (⟨"PupilsPupilModel", "qWordOf", "(II)I"⟩, 105), (⟨"PupilsPupilModel", "qWordHere", "()I"⟩, 105), (⟨"PupilsPupilModel", "isAllowed", "(I)Z"⟩, 105), (⟨"PupilsPupilModel", "asksSign", "(I)V"⟩, 105), (⟨"PupilsPupilModel", "takesSign", "(I)Z"⟩, 105), (⟨"PupilsPupilModel", "qAsksWord", "(I)V"⟩, 105), (⟨"PupilsPupilModel", "qEndsPart", "()V"⟩, 105), (⟨"PupilsPupilModel", "qDrops", "()V"⟩, 105), (⟨"PupilsPupilModel", "qGoesOn", "()Z"⟩, 105), (⟨"PupilsPupilModel", "qBracket", "()I"⟩, 105), (⟨"PupilsPupilModel", "qDropsToBracket", "()V"⟩, 105), (⟨"PupilsPupilModel", "qIsOn", "(I)Z"⟩, 105), (⟨"PupilsPupilModel", "qDropsNots", "()V"⟩, 105)]
theorem lw_r5 : ∀ q ∈ lw_privs_5, lw_okq q := List.forall_mem_cons.mpr ⟨lw_p64, List.forall_mem_cons.mpr ⟨lw_p65, List.forall_mem_cons.mpr ⟨lw_p66, List.forall_mem_cons.mpr ⟨lw_p67, List.forall_mem_cons.mpr ⟨lw_p68, List.forall_mem_cons.mpr ⟨lw_p69, List.forall_mem_cons.mpr ⟨lw_p70, List.forall_mem_cons.mpr ⟨lw_p71, List.forall_mem_cons.mpr ⟨lw_p72, List.forall_mem_cons.mpr ⟨lw_p73, List.forall_mem_cons.mpr ⟨lw_p74, List.forall_mem_cons.mpr ⟨lw_p75, List.forall_mem_cons.mpr ⟨lw_p76, List.forall_mem_cons.mpr ⟨lw_p77, List.forall_mem_cons.mpr ⟨lw_p78, List.forall_mem_cons.mpr ⟨lw_p79, fun _ h => absurd h List.not_mem_nil⟩⟩⟩⟩⟩⟩⟩⟩⟩⟩⟩⟩⟩⟩⟩⟩
theorem lw_p80 : lw_okq (⟨"PupilsPupilModel", "qGoesOnTest", "()Z"⟩, 105) := ⟨⟨by decide +kernel, by decide +kernel⟩, List.mem_of_getElem? (i := 1122) (by decide +kernel), List.mem_of_getElem? (i := 1620) (by decide +kernel), List.mem_of_getElem? (i := 1621) (by decide +kernel)⟩
theorem lw_p81 : lw_okq (⟨"PupilsPupilModel", "qHasSquare", "()Z"⟩, 105) := ⟨⟨by decide +kernel, by decide +kernel⟩, List.mem_of_getElem? (i := 1122) (by decide +kernel), List.mem_of_getElem? (i := 1624) (by decide +kernel), List.mem_of_getElem? (i := 1625) (by decide +kernel)⟩
theorem lw_p82 : lw_okq (⟨"PupilsPupilModel", "stands", "()V"⟩, 105) := ⟨⟨by decide +kernel, by decide +kernel⟩, List.mem_of_getElem? (i := 1122) (by decide +kernel), List.mem_of_getElem? (i := 1628) (by decide +kernel), List.mem_of_getElem? (i := 1629) (by decide +kernel)⟩
theorem lw_p83 : lw_okq (⟨"PupilsPupilModel", "thoseWho", "(I)I"⟩, 105) := ⟨⟨by decide +kernel, by decide +kernel⟩, List.mem_of_getElem? (i := 1122) (by decide +kernel), List.mem_of_getElem? (i := 1640) (by decide +kernel), List.mem_of_getElem? (i := 1641) (by decide +kernel)⟩
theorem lw_p84 : lw_okq (⟨"PupilsPupilModel", "personMany", "()I"⟩, 105) := ⟨⟨by decide +kernel, by decide +kernel⟩, List.mem_of_getElem? (i := 1122) (by decide +kernel), List.mem_of_getElem? (i := 1644) (by decide +kernel), List.mem_of_getElem? (i := 1645) (by decide +kernel)⟩
theorem lw_p85 : lw_okq (⟨"PupilsPupilModel", "beliefs", "(Z)I"⟩, 105) := ⟨⟨by decide +kernel, by decide +kernel⟩, List.mem_of_getElem? (i := 1122) (by decide +kernel), List.mem_of_getElem? (i := 1651) (by decide +kernel), List.mem_of_getElem? (i := 1652) (by decide +kernel)⟩
theorem lw_p86 : lw_okq (⟨"PupilsPupilModel", "rightOf", "(I)I"⟩, 105) := ⟨⟨by decide +kernel, by decide +kernel⟩, List.mem_of_getElem? (i := 1122) (by decide +kernel), List.mem_of_getElem? (i := 1655) (by decide +kernel), List.mem_of_getElem? (i := 1656) (by decide +kernel)⟩
theorem lw_p87 : lw_okq (⟨"PupilsPupilModel", "wrongOf", "(I)I"⟩, 105) := ⟨⟨by decide +kernel, by decide +kernel⟩, List.mem_of_getElem? (i := 1122) (by decide +kernel), List.mem_of_getElem? (i := 1659) (by decide +kernel), List.mem_of_getElem? (i := 1660) (by decide +kernel)⟩
theorem lw_p88 : lw_okq (⟨"PupilsPupilModel", "isFact", "(I)Z"⟩, 105) := ⟨⟨by decide +kernel, by decide +kernel⟩, List.mem_of_getElem? (i := 1122) (by decide +kernel), List.mem_of_getElem? (i := 1672) (by decide +kernel), List.mem_of_getElem? (i := 1673) (by decide +kernel)⟩
theorem lw_p89 : lw_okq (⟨"PupilsPupilModel", "factMany", "()I"⟩, 105) := ⟨⟨by decide +kernel, by decide +kernel⟩, List.mem_of_getElem? (i := 1122) (by decide +kernel), List.mem_of_getElem? (i := 1676) (by decide +kernel), List.mem_of_getElem? (i := 1677) (by decide +kernel)⟩
theorem lw_p90 : lw_okq (⟨"PupilsPupilModel", "rightMany", "(I)I"⟩, 105) := ⟨⟨by decide +kernel, by decide +kernel⟩, List.mem_of_getElem? (i := 1122) (by decide +kernel), List.mem_of_getElem? (i := 1680) (by decide +kernel), List.mem_of_getElem? (i := 1681) (by decide +kernel)⟩
theorem lw_p91 : lw_okq (⟨"PupilsPupilModel", "wrongMany", "(I)I"⟩, 105) := ⟨⟨by decide +kernel, by decide +kernel⟩, List.mem_of_getElem? (i := 1122) (by decide +kernel), List.mem_of_getElem? (i := 1684) (by decide +kernel), List.mem_of_getElem? (i := 1685) (by decide +kernel)⟩
theorem lw_p92 : lw_okq (⟨"PupilsPupilModel", "isPerson", "(I)Z"⟩, 105) := ⟨⟨by decide +kernel, by decide +kernel⟩, List.mem_of_getElem? (i := 1122) (by decide +kernel), List.mem_of_getElem? (i := 1692) (by decide +kernel), List.mem_of_getElem? (i := 1693) (by decide +kernel)⟩
theorem lw_p93 : lw_okq (⟨"PupilsPupilModel", "masterOf", "(I)I"⟩, 105) := ⟨⟨by decide +kernel, by decide +kernel⟩, List.mem_of_getElem? (i := 1122) (by decide +kernel), List.mem_of_getElem? (i := 1696) (by decide +kernel), List.mem_of_getElem? (i := 1697) (by decide +kernel)⟩
theorem lw_p94 : lw_okq (⟨"PupilsPupilModel", "pupilsOf", "(I)I"⟩, 105) := ⟨⟨by decide +kernel, by decide +kernel⟩, List.mem_of_getElem? (i := 1122) (by decide +kernel), List.mem_of_getElem? (i := 1700) (by decide +kernel), List.mem_of_getElem? (i := 1701) (by decide +kernel)⟩
theorem lw_p95 : lw_okq (⟨"PupilsPupilModel", "leftOf", "(I)I"⟩, 105) := ⟨⟨by decide +kernel, by decide +kernel⟩, List.mem_of_getElem? (i := 1122) (by decide +kernel), List.mem_of_getElem? (i := 1704) (by decide +kernel), List.mem_of_getElem? (i := 1705) (by decide +kernel)⟩
def lw_privs_6 : List (MethodName × Nat) := [(⟨"PupilsPupilModel", "qGoesOnTest", "()Z"⟩, 105), (⟨"PupilsPupilModel", "qHasSquare", "()Z"⟩, 105), (⟨"PupilsPupilModel", "stands", "()V"⟩, 105), (⟨"PupilsPupilModel", "thoseWho", "(I)I"⟩, 105), (⟨"PupilsPupilModel", "personMany", "()I"⟩, 105), (⟨"PupilsPupilModel", "beliefs", "(Z)I"⟩, 105), (⟨"PupilsPupilModel", "rightOf", "(I)I"⟩, 105), (⟨"PupilsPupilModel", "wrongOf", "(I)I"⟩, 105), (⟨"PupilsPupilModel", "isFact", "(I)Z"⟩, 105), (⟨"PupilsPupilModel", "factMany", "()I"⟩, 105), (⟨"PupilsPupilModel", "rightMany", "(I)I"⟩, 105), (⟨"PupilsPupilModel", "wrongMany", "(I)I"⟩, 105), (⟨"PupilsPupilModel", "isPerson", "(I)Z"⟩, 105), (⟨"PupilsPupilModel", "masterOf", "(I)I"⟩, 105), (⟨"PupilsPupilModel", "pupilsOf", "(I)I"⟩, 105), (⟨"PupilsPupilModel", "leftOf", "(I)I"⟩, 105)]
theorem lw_r6 : ∀ q ∈ lw_privs_6, lw_okq q := List.forall_mem_cons.mpr ⟨lw_p80, List.forall_mem_cons.mpr ⟨lw_p81, List.forall_mem_cons.mpr ⟨lw_p82, List.forall_mem_cons.mpr ⟨lw_p83, List.forall_mem_cons.mpr ⟨lw_p84, List.forall_mem_cons.mpr ⟨lw_p85, List.forall_mem_cons.mpr ⟨lw_p86, List.forall_mem_cons.mpr ⟨lw_p87, List.forall_mem_cons.mpr ⟨lw_p88, List.forall_mem_cons.mpr ⟨lw_p89, List.forall_mem_cons.mpr ⟨lw_p90, List.forall_mem_cons.mpr ⟨lw_p91, List.forall_mem_cons.mpr ⟨lw_p92, List.forall_mem_cons.mpr ⟨lw_p93, List.forall_mem_cons.mpr ⟨lw_p94, List.forall_mem_cons.mpr ⟨lw_p95, fun _ h => absurd h List.not_mem_nil⟩⟩⟩⟩⟩⟩⟩⟩⟩⟩⟩⟩⟩⟩⟩⟩
theorem lw_p96 : lw_okq (⟨"PupilsPupilModel", "hasPassed", "(I)Z"⟩, 105) := ⟨⟨by decide +kernel, by decide +kernel⟩, List.mem_of_getElem? (i := 1122) (by decide +kernel), List.mem_of_getElem? (i := 1708) (by decide +kernel), List.mem_of_getElem? (i := 1709) (by decide +kernel)⟩
theorem lw_p97 : lw_okq (⟨"PupilsPupilModel", "isDoctor", "(I)Z"⟩, 105) := ⟨⟨by decide +kernel, by decide +kernel⟩, List.mem_of_getElem? (i := 1122) (by decide +kernel), List.mem_of_getElem? (i := 1712) (by decide +kernel), List.mem_of_getElem? (i := 1713) (by decide +kernel)⟩
theorem lw_p98 : lw_okq (⟨"PupilsPupilModel", "marksOf", "(I)I"⟩, 105) := ⟨⟨by decide +kernel, by decide +kernel⟩, List.mem_of_getElem? (i := 1122) (by decide +kernel), List.mem_of_getElem? (i := 1720) (by decide +kernel), List.mem_of_getElem? (i := 1721) (by decide +kernel)⟩
theorem lw_p99 : lw_okq (⟨"PupilsPupilModel", "taughtNext", "(I)I"⟩, 105) := ⟨⟨by decide +kernel, by decide +kernel⟩, List.mem_of_getElem? (i := 1122) (by decide +kernel), List.mem_of_getElem? (i := 1729) (by decide +kernel), List.mem_of_getElem? (i := 1730) (by decide +kernel)⟩
theorem lw_p100 : lw_okq (⟨"PupilsPupilModel", "isOf", "(II)I"⟩, 105) := ⟨⟨by decide +kernel, by decide +kernel⟩, List.mem_of_getElem? (i := 1122) (by decide +kernel), List.mem_of_getElem? (i := 1733) (by decide +kernel), List.mem_of_getElem? (i := 1734) (by decide +kernel)⟩
theorem lw_p101 : lw_okq (⟨"PupilsPupilModel", "holds", "(III)Z"⟩, 105) := ⟨⟨by decide +kernel, by decide +kernel⟩, List.mem_of_getElem? (i := 1122) (by decide +kernel), List.mem_of_getElem? (i := 1737) (by decide +kernel), List.mem_of_getElem? (i := 1738) (by decide +kernel)⟩
theorem lw_p102 : lw_okq (⟨"PupilsPupilModel", "qPuts", "(J)V"⟩, 105) := ⟨⟨by decide +kernel, by decide +kernel⟩, List.mem_of_getElem? (i := 1122) (by decide +kernel), List.mem_of_getElem? (i := 1741) (by decide +kernel), List.mem_of_getElem? (i := 1742) (by decide +kernel)⟩
theorem lw_p103 : lw_okq (⟨"PupilsPupilModel", "qPartOf", "(II)J"⟩, 105) := ⟨⟨by decide +kernel, by decide +kernel⟩, List.mem_of_getElem? (i := 1122) (by decide +kernel), List.mem_of_getElem? (i := 1745) (by decide +kernel), List.mem_of_getElem? (i := 1746) (by decide +kernel)⟩
theorem lw_p104 : lw_okq (⟨"PupilsPupilModel", "qJoins", "(I)V"⟩, 105) := ⟨⟨by decide +kernel, by decide +kernel⟩, List.mem_of_getElem? (i := 1122) (by decide +kernel), List.mem_of_getElem? (i := 1749) (by decide +kernel), List.mem_of_getElem? (i := 1750) (by decide +kernel)⟩
theorem lw_p105 : lw_okq (⟨"PupilsPupilModel", "isAhead", "(III)Z"⟩, 105) := ⟨⟨by decide +kernel, by decide +kernel⟩, List.mem_of_getElem? (i := 1122) (by decide +kernel), List.mem_of_getElem? (i := 1770) (by decide +kernel), List.mem_of_getElem? (i := 1771) (by decide +kernel)⟩
theorem lw_p106 : lw_okq (⟨"PupilsPupilModel", "putsAside", "()V"⟩, 105) := ⟨⟨by decide +kernel, by decide +kernel⟩, List.mem_of_getElem? (i := 1122) (by decide +kernel), List.mem_of_getElem? (i := 1775) (by decide +kernel), List.mem_of_getElem? (i := 1776) (by decide +kernel)⟩
theorem lw_p107 : lw_okq (⟨"PupilsPupilModel", "yearsGo", "(I)V"⟩, 105) := ⟨⟨by decide +kernel, by decide +kernel⟩, List.mem_of_getElem? (i := 1122) (by decide +kernel), List.mem_of_getElem? (i := 1779) (by decide +kernel), List.mem_of_getElem? (i := 1780) (by decide +kernel)⟩
theorem lw_p108 : lw_okq (⟨"PupilsPupilModel", "yearGoes", "(I)V"⟩, 105) := ⟨⟨by decide +kernel, by decide +kernel⟩, List.mem_of_getElem? (i := 1122) (by decide +kernel), List.mem_of_getElem? (i := 1783) (by decide +kernel), List.mem_of_getElem? (i := 1784) (by decide +kernel)⟩
theorem lw_p109 : lw_okq (⟨"PupilsPupilModel", "allTaught", "(I)V"⟩, 105) := ⟨⟨by decide +kernel, by decide +kernel⟩, List.mem_of_getElem? (i := 1122) (by decide +kernel), List.mem_of_getElem? (i := 1787) (by decide +kernel), List.mem_of_getElem? (i := 1788) (by decide +kernel)⟩
theorem lw_p110 : lw_okq (⟨"PupilsPupilModel", "makes", "(III)V"⟩, 105) := ⟨⟨by decide +kernel, by decide +kernel⟩, List.mem_of_getElem? (i := 1122) (by decide +kernel), List.mem_of_getElem? (i := 1791) (by decide +kernel), List.mem_of_getElem? (i := 1792) (by decide +kernel)⟩
theorem lw_p111 : lw_okq (⟨"PupilsPupilModel", "sitsFor", "(I)V"⟩, 105) := ⟨⟨by decide +kernel, by decide +kernel⟩, List.mem_of_getElem? (i := 1122) (by decide +kernel), List.mem_of_getElem? (i := 1795) (by decide +kernel), List.mem_of_getElem? (i := 1796) (by decide +kernel)⟩
def lw_privs_7 : List (MethodName × Nat) := [(⟨"PupilsPupilModel", "hasPassed", "(I)Z"⟩, 105), (⟨"PupilsPupilModel", "isDoctor", "(I)Z"⟩, 105), (⟨"PupilsPupilModel", "marksOf", "(I)I"⟩, 105), (⟨"PupilsPupilModel", "taughtNext", "(I)I"⟩, 105), (⟨"PupilsPupilModel", "isOf", "(II)I"⟩, 105), (⟨"PupilsPupilModel", "holds", "(III)Z"⟩, 105), (⟨"PupilsPupilModel", "qPuts", "(J)V"⟩, 105), (⟨"PupilsPupilModel", "qPartOf", "(II)J"⟩, 105), (⟨"PupilsPupilModel", "qJoins", "(I)V"⟩, 105), (⟨"PupilsPupilModel", "isAhead", "(III)Z"⟩, 105), (⟨"PupilsPupilModel", "putsAside", "()V"⟩, 105), (⟨"PupilsPupilModel", "yearsGo", "(I)V"⟩, 105), (⟨"PupilsPupilModel", "yearGoes", "(I)V"⟩, 105), (⟨"PupilsPupilModel", "allTaught", "(I)V"⟩, 105), (⟨"PupilsPupilModel", "makes", "(III)V"⟩, 105), (⟨"PupilsPupilModel", "sitsFor", "(I)V"⟩, 105)]
theorem lw_r7 : ∀ q ∈ lw_privs_7, lw_okq q := List.forall_mem_cons.mpr ⟨lw_p96, List.forall_mem_cons.mpr ⟨lw_p97, List.forall_mem_cons.mpr ⟨lw_p98, List.forall_mem_cons.mpr ⟨lw_p99, List.forall_mem_cons.mpr ⟨lw_p100, List.forall_mem_cons.mpr ⟨lw_p101, List.forall_mem_cons.mpr ⟨lw_p102, List.forall_mem_cons.mpr ⟨lw_p103, List.forall_mem_cons.mpr ⟨lw_p104, List.forall_mem_cons.mpr ⟨lw_p105, List.forall_mem_cons.mpr ⟨lw_p106, List.forall_mem_cons.mpr ⟨lw_p107, List.forall_mem_cons.mpr ⟨lw_p108, List.forall_mem_cons.mpr ⟨lw_p109, List.forall_mem_cons.mpr ⟨lw_p110, List.forall_mem_cons.mpr ⟨lw_p111, fun _ h => absurd h List.not_mem_nil⟩⟩⟩⟩⟩⟩⟩⟩⟩⟩⟩⟩⟩⟩⟩⟩
theorem lw_p112 : lw_okq (⟨"PupilsPupilModel", "becomes", "(II)V"⟩, 105) := ⟨⟨by decide +kernel, by decide +kernel⟩, List.mem_of_getElem? (i := 1122) (by decide +kernel), List.mem_of_getElem? (i := 1799) (by decide +kernel), List.mem_of_getElem? (i := 1800) (by decide +kernel)⟩
theorem lw_p113 : lw_okq (⟨"PupilsPupilModel", "isKept", "(II)V"⟩, 105) := ⟨⟨by decide +kernel, by decide +kernel⟩, List.mem_of_getElem? (i := 1122) (by decide +kernel), List.mem_of_getElem? (i := 1803) (by decide +kernel), List.mem_of_getElem? (i := 1804) (by decide +kernel)⟩
theorem lw_p114 : lw_okq (⟨"PupilsPupilModel", "isMastersMaster", "(I)Z"⟩, 105) := ⟨⟨by decide +kernel, by decide +kernel⟩, List.mem_of_getElem? (i := 1122) (by decide +kernel), List.mem_of_getElem? (i := 1807) (by decide +kernel), List.mem_of_getElem? (i := 1808) (by decide +kernel)⟩
theorem lw_p115 : lw_okq (⟨"PupilsPupilModel", "takesBack", "()V"⟩, 105) := ⟨⟨by decide +kernel, by decide +kernel⟩, List.mem_of_getElem? (i := 1122) (by decide +kernel), List.mem_of_getElem? (i := 1811) (by decide +kernel), List.mem_of_getElem? (i := 1812) (by decide +kernel)⟩
theorem lw_p116 : lw_okq (⟨"PupilsPupilModel", "triesAnew", "()V"⟩, 105) := ⟨⟨by decide +kernel, by decide +kernel⟩, List.mem_of_getElem? (i := 1122) (by decide +kernel), List.mem_of_getElem? (i := 1815) (by decide +kernel), List.mem_of_getElem? (i := 1816) (by decide +kernel)⟩
theorem lw_p117 : lw_okq (⟨"PupilsPupilModel", "isTaughtBy", "(II)Z"⟩, 105) := ⟨⟨by decide +kernel, by decide +kernel⟩, List.mem_of_getElem? (i := 1122) (by decide +kernel), List.mem_of_getElem? (i := 1831) (by decide +kernel), List.mem_of_getElem? (i := 1832) (by decide +kernel)⟩
theorem lw_p118 : lw_okq (⟨"PupilsPupilModel", "yearsTill", "(I)I"⟩, 105) := ⟨⟨by decide +kernel, by decide +kernel⟩, List.mem_of_getElem? (i := 1122) (by decide +kernel), List.mem_of_getElem? (i := 1835) (by decide +kernel), List.mem_of_getElem? (i := 1836) (by decide +kernel)⟩
theorem lw_p119 : lw_okq (⟨"PupilsPupilModel", "isDoctorBehind", "(II)Z"⟩, 105) := ⟨⟨by decide +kernel, by decide +kernel⟩, List.mem_of_getElem? (i := 1122) (by decide +kernel), List.mem_of_getElem? (i := 1843) (by decide +kernel), List.mem_of_getElem? (i := 1844) (by decide +kernel)⟩
theorem lw_p120 : lw_okq (⟨"PupilsPupilModel", "isSource", "(III)Z"⟩, 105) := ⟨⟨by decide +kernel, by decide +kernel⟩, List.mem_of_getElem? (i := 1122) (by decide +kernel), List.mem_of_getElem? (i := 1859) (by decide +kernel), List.mem_of_getElem? (i := 1860) (by decide +kernel)⟩
theorem lw_p121 : lw_okq (⟨"PupilsPupilModel", "areParted", "(III)Z"⟩, 105) := ⟨⟨by decide +kernel, by decide +kernel⟩, List.mem_of_getElem? (i := 1122) (by decide +kernel), List.mem_of_getElem? (i := 1871) (by decide +kernel), List.mem_of_getElem? (i := 1872) (by decide +kernel)⟩
theorem lw_p122 : lw_okq (⟨"PupilsPupilModel", "keeps", "()V"⟩, 105) := ⟨⟨by decide +kernel, by decide +kernel⟩, List.mem_of_getElem? (i := 1122) (by decide +kernel), List.mem_of_getElem? (i := 1883) (by decide +kernel), List.mem_of_getElem? (i := 1884) (by decide +kernel)⟩
theorem lw_p123 : lw_okq (⟨"PupilsPupilModel", "drawOf", "(I)I"⟩, 105) := ⟨⟨by decide +kernel, by decide +kernel⟩, List.mem_of_getElem? (i := 1122) (by decide +kernel), List.mem_of_getElem? (i := 1903) (by decide +kernel), List.mem_of_getElem? (i := 1904) (by decide +kernel)⟩
theorem lw_p124 : lw_okq (⟨"PupilsPupilModel", "qKind", "()I"⟩, 105) := ⟨⟨by decide +kernel, by decide +kernel⟩, List.mem_of_getElem? (i := 1122) (by decide +kernel), List.mem_of_getElem? (i := 1915) (by decide +kernel), List.mem_of_getElem? (i := 1916) (by decide +kernel)⟩
theorem lw_p125 : lw_okq (⟨"PupilsPupilModel", "qTold", "(I)J"⟩, 105) := ⟨⟨by decide +kernel, by decide +kernel⟩, List.mem_of_getElem? (i := 1122) (by decide +kernel), List.mem_of_getElem? (i := 1920) (by decide +kernel), List.mem_of_getElem? (i := 1921) (by decide +kernel)⟩
theorem lw_p126 : lw_okq (⟨"PupilsPupilModel", "qOf", "(IJI)J"⟩, 105) := ⟨⟨by decide +kernel, by decide +kernel⟩, List.mem_of_getElem? (i := 1122) (by decide +kernel), List.mem_of_getElem? (i := 1924) (by decide +kernel), List.mem_of_getElem? (i := 1925) (by decide +kernel)⟩
theorem lw_p127 : lw_okq (⟨"PupilsPupilModel", "qTakes", "(IJI)V"⟩, 105) := ⟨⟨by decide +kernel, by decide +kernel⟩, List.mem_of_getElem? (i := 1122) (by decide +kernel), List.mem_of_getElem? (i := 1928) (by decide +kernel), List.mem_of_getElem? (i := 1929) (by decide +kernel)⟩
def lw_privs_8 : List (MethodName × Nat) := [(⟨"PupilsPupilModel", "becomes", "(II)V"⟩, 105), (⟨"PupilsPupilModel", "isKept", "(II)V"⟩, 105), (⟨"PupilsPupilModel", "isMastersMaster", "(I)Z"⟩, 105), (⟨"PupilsPupilModel", "takesBack", "()V"⟩, 105), (⟨"PupilsPupilModel", "triesAnew", "()V"⟩, 105), (⟨"PupilsPupilModel", "isTaughtBy", "(II)Z"⟩, 105), (⟨"PupilsPupilModel", "yearsTill", "(I)I"⟩, 105), (⟨"PupilsPupilModel", "isDoctorBehind", "(II)Z"⟩, 105), (⟨"PupilsPupilModel", "isSource", "(III)Z"⟩, 105), (⟨"PupilsPupilModel", "areParted", "(III)Z"⟩, 105), (⟨"PupilsPupilModel", "keeps", "()V"⟩, 105), (⟨"PupilsPupilModel", "drawOf", "(I)I"⟩, 105), (⟨"PupilsPupilModel", "qKind", "()I"⟩, 105), (⟨"PupilsPupilModel", "qTold", "(I)J"⟩, 105), (⟨"PupilsPupilModel", "qOf", "(IJI)J"⟩, 105), (⟨"PupilsPupilModel", "qTakes", "(IJI)V"⟩, 105)]
theorem lw_r8 : ∀ q ∈ lw_privs_8, lw_okq q := List.forall_mem_cons.mpr ⟨lw_p112, List.forall_mem_cons.mpr ⟨lw_p113, List.forall_mem_cons.mpr ⟨lw_p114, List.forall_mem_cons.mpr ⟨lw_p115, List.forall_mem_cons.mpr ⟨lw_p116, List.forall_mem_cons.mpr ⟨lw_p117, List.forall_mem_cons.mpr ⟨lw_p118, List.forall_mem_cons.mpr ⟨lw_p119, List.forall_mem_cons.mpr ⟨lw_p120, List.forall_mem_cons.mpr ⟨lw_p121, List.forall_mem_cons.mpr ⟨lw_p122, List.forall_mem_cons.mpr ⟨lw_p123, List.forall_mem_cons.mpr ⟨lw_p124, List.forall_mem_cons.mpr ⟨lw_p125, List.forall_mem_cons.mpr ⟨lw_p126, List.forall_mem_cons.mpr ⟨lw_p127, fun _ h => absurd h List.not_mem_nil⟩⟩⟩⟩⟩⟩⟩⟩⟩⟩⟩⟩⟩⟩⟩⟩
theorem lw_p128 : lw_okq (⟨"PupilsPupilModel", "writes", "(I)V"⟩, 105) := ⟨⟨by decide +kernel, by decide +kernel⟩, List.mem_of_getElem? (i := 1122) (by decide +kernel), List.mem_of_getElem? (i := 1936) (by decide +kernel), List.mem_of_getElem? (i := 1937) (by decide +kernel)⟩
theorem lw_p129 : lw_okq (⟨"PupilsPupilModel", "isImage", "(I)Z"⟩, 105) := ⟨⟨by decide +kernel, by decide +kernel⟩, List.mem_of_getElem? (i := 1122) (by decide +kernel), List.mem_of_getElem? (i := 1951) (by decide +kernel), List.mem_of_getElem? (i := 1952) (by decide +kernel)⟩
theorem lw_p130 : lw_okq (⟨"PupilsPupilModel", "isPersonTold", "(I)Z"⟩, 105) := ⟨⟨by decide +kernel, by decide +kernel⟩, List.mem_of_getElem? (i := 1122) (by decide +kernel), List.mem_of_getElem? (i := 1955) (by decide +kernel), List.mem_of_getElem? (i := 1956) (by decide +kernel)⟩
theorem lw_p131 : lw_okq (⟨"PupilsPupilModel", "isRing", "(I)Z"⟩, 105) := ⟨⟨by decide +kernel, by decide +kernel⟩, List.mem_of_getElem? (i := 1122) (by decide +kernel), List.mem_of_getElem? (i := 1959) (by decide +kernel), List.mem_of_getElem? (i := 1960) (by decide +kernel)⟩
def lw_privs_9 : List (MethodName × Nat) := [(⟨"PupilsPupilModel", "writes", "(I)V"⟩, 105), (⟨"PupilsPupilModel", "isImage", "(I)Z"⟩, 105), (⟨"PupilsPupilModel", "isPersonTold", "(I)Z"⟩, 105), (⟨"PupilsPupilModel", "isRing", "(I)Z"⟩, 105)]
theorem lw_r9 : ∀ q ∈ lw_privs_9, lw_okq q := List.forall_mem_cons.mpr ⟨lw_p128, List.forall_mem_cons.mpr ⟨lw_p129, List.forall_mem_cons.mpr ⟨lw_p130, List.forall_mem_cons.mpr ⟨lw_p131, fun _ h => absurd h List.not_mem_nil⟩⟩⟩⟩
def lw_privs : List (MethodName × Nat) := lw_privs_1 ++ (lw_privs_2 ++ (lw_privs_3 ++ (lw_privs_4 ++ (lw_privs_5 ++ (lw_privs_6 ++ (lw_privs_7 ++ (lw_privs_8 ++ (lw_privs_9))))))))
def lw_tbl : List Cond := k2_sels lw_privs ++ tables_1
theorem lw_privs_ok : ∀ q ∈ lw_privs, lw_okq q := by
  show ∀ q ∈ lw_privs_1 ++ (lw_privs_2 ++ (lw_privs_3 ++ (lw_privs_4 ++ (lw_privs_5 ++ (lw_privs_6 ++ (lw_privs_7 ++ (lw_privs_8 ++ (lw_privs_9)))))))), lw_okq q
  exact List.forall_mem_append.mpr ⟨lw_r1, List.forall_mem_append.mpr ⟨lw_r2, List.forall_mem_append.mpr ⟨lw_r3, List.forall_mem_append.mpr ⟨lw_r4, List.forall_mem_append.mpr ⟨lw_r5, List.forall_mem_append.mpr ⟨lw_r6, List.forall_mem_append.mpr ⟨lw_r7, List.forall_mem_append.mpr ⟨lw_r8, lw_r9⟩⟩⟩⟩⟩⟩⟩⟩
def RX0 : String := "PupilsPupil$1"
def TX0 : u_T := fun k => match k with
  | _ => ("", "", "", false)
def tyX0 : Nat → FieldType := fun k => match k with
  | _ => .int
abbrev wsX00 : List Cond := u_ws RX0 TX0 0
theorem nmX0 : ∀ a, a < 0 → ∀ b, b < 0 → a ≠ b → (TX0 a).2.1 ≠ (TX0 b).2.1 := by decide +kernel
theorem tyX0_ok : ∀ k, k < 0 → parseFieldDescriptor (TX0 k).2.2.1 = some (tyX0 k) := by decide +kernel
def RX1 : String := "PupilsPupil$Calendar"
def TX1 : u_T := fun k => match k with
  | 0 => ("PupilsPupil$Calendar", "school", "LPupilsPupil$School;", true)
  | 1 => ("PupilsPupil$Calendar", "slots", "[I", true)
  | 2 => ("PupilsPupil$Calendar", "lessons", "[I", true)
  | _ => ("PupilsPupil$Calendar", "takenAs", "[I", true)
def tyX1 : Nat → FieldType := fun k => match k with
  | 0 => .object "PupilsPupil$School"
  | 1 => .array .int
  | 2 => .array .int
  | _ => .array .int
abbrev wsX10 : List Cond := u_ws RX1 TX1 4
theorem nmX1 : ∀ a, a < 4 → ∀ b, b < 4 → a ≠ b → (TX1 a).2.1 ≠ (TX1 b).2.1 := by decide +kernel
theorem tyX1_ok : ∀ k, k < 4 → parseFieldDescriptor (TX1 k).2.2.1 = some (tyX1 k) := by decide +kernel
abbrev cX1_init : ByteArray := prog_3_method_1_code
def yX1_init : MethodName := ⟨RX1, "<init>", "(LPupilsPupil$School;)V"⟩
abbrev cX1_runYear : ByteArray := prog_3_method_2_code
def yX1_runYear : MethodName := ⟨RX1, "runYear", "(LPupilsPupil$State;I)I"⟩
abbrev cX1_lessonOf : ByteArray := prog_3_method_3_code
def yX1_lessonOf : MethodName := ⟨RX1, "lessonOf", "(LPupilsPupil$State;I)I"⟩
abbrev cX1_beliefTaken : ByteArray := prog_3_method_4_code
def yX1_beliefTaken : MethodName := ⟨RX1, "beliefTaken", "(LPupilsPupil$State;II)I"⟩
abbrev cX1_fillLesson : ByteArray := prog_3_method_5_code
def yX1_fillLesson : MethodName := ⟨RX1, "fillLesson", "(LPupilsPupil$State;II)V"⟩
abbrev cX1_fillPerson : ByteArray := prog_3_method_6_code
def yX1_fillPerson : MethodName := ⟨RX1, "fillPerson", "(LPupilsPupil$State;I)V"⟩
abbrev cX1_examine : ByteArray := prog_3_method_7_code
def yX1_examine : MethodName := ⟨RX1, "examine", "(LPupilsPupil$State;I)I"⟩
abbrev cX1_nameDoctors : ByteArray := prog_3_method_8_code
def yX1_nameDoctors : MethodName := ⟨RX1, "nameDoctors", "(LPupilsPupil$State;)V"⟩
def RX2 : String := "PupilsPupil$Foresight"
def TX2 : u_T := fun k => match k with
  | 0 => ("PupilsPupil$Foresight", "school", "LPupilsPupil$School;", true)
  | 1 => ("PupilsPupil$Foresight", "now", "LPupilsPupil$State;", true)
  | 2 => ("PupilsPupil$Foresight", "calendar", "LPupilsPupil$Calendar;", true)
  | 3 => ("PupilsPupil$Foresight", "trial", "LPupilsPupil$State;", true)
  | 4 => ("PupilsPupil$Foresight", "foundFirst", "I", false)
  | _ => ("PupilsPupil$Foresight", "foundSecond", "I", false)
def tyX2 : Nat → FieldType := fun k => match k with
  | 0 => .object "PupilsPupil$School"
  | 1 => .object "PupilsPupil$State"
  | 2 => .object "PupilsPupil$Calendar"
  | 3 => .object "PupilsPupil$State"
  | 4 => .int
  | _ => .int
abbrev wsX20 : List Cond := u_ws RX2 TX2 6
theorem nmX2 : ∀ a, a < 6 → ∀ b, b < 6 → a ≠ b → (TX2 a).2.1 ≠ (TX2 b).2.1 := by decide +kernel
theorem tyX2_ok : ∀ k, k < 6 → parseFieldDescriptor (TX2 k).2.2.1 = some (tyX2 k) := by decide +kernel
abbrev cX2_init : ByteArray := prog_4_method_1_code
def yX2_init : MethodName := ⟨RX2, "<init>", "(LPupilsPupil$School;LPupilsPupil$State;LPupilsPupil$Calendar;)V"⟩
abbrev cX2_reaches : ByteArray := prog_4_method_2_code
def yX2_reaches : MethodName := ⟨RX2, "reaches", "(II)Z"⟩
abbrev cX2_horizon : ByteArray := prog_4_method_3_code
def yX2_horizon : MethodName := ⟨RX2, "horizon", "()I"⟩
abbrev cX2_after : ByteArray := prog_4_method_4_code
def yX2_after : MethodName := ⟨RX2, "after", "(I)LPupilsPupil$State;"⟩
abbrev cX2_yearsToDoctor : ByteArray := prog_4_method_5_code
def yX2_yearsToDoctor : MethodName := ⟨RX2, "yearsToDoctor", "(I)I"⟩
abbrev cX2_runToDoctor : ByteArray := prog_4_method_6_code
def yX2_runToDoctor : MethodName := ⟨RX2, "runToDoctor", "(II)I"⟩
abbrev cX2_yearsToLoss : ByteArray := prog_4_method_7_code
def yX2_yearsToLoss : MethodName := ⟨RX2, "yearsToLoss", "(I)I"⟩
abbrev cX2_findMaster : ByteArray := prog_4_method_8_code
def yX2_findMaster : MethodName := ⟨RX2, "findMaster", "(I)V"⟩
abbrev cX2_yearsToPass : ByteArray := prog_4_method_9_code
def yX2_yearsToPass : MethodName := ⟨RX2, "yearsToPass", "(III)I"⟩
abbrev cX2_findGift : ByteArray := prog_4_method_10_code
def yX2_findGift : MethodName := ⟨RX2, "findGift", "(II)V"⟩
abbrev cX2_findTries : ByteArray := prog_4_method_11_code
def yX2_findTries : MethodName := ⟨RX2, "findTries", "(I)V"⟩
abbrev cX2_doctorsWith : ByteArray := prog_4_method_12_code
def yX2_doctorsWith : MethodName := ⟨RX2, "doctorsWith", "(II)I"⟩
def RX3 : String := "PupilsPupil$Formula"
def TX3 : u_T := fun k => match k with
  | 0 => ("PupilsPupil$Formula", "steps", "[I", true)
  | 1 => ("PupilsPupil$Formula", "from", "[I", true)
  | 2 => ("PupilsPupil$Formula", "to", "[I", true)
  | 3 => ("PupilsPupil$Formula", "stack", "[I", true)
  | _ => ("PupilsPupil$Formula", "size", "I", false)
def tyX3 : Nat → FieldType := fun k => match k with
  | 0 => .array .int
  | 1 => .array .int
  | 2 => .array .int
  | 3 => .array .int
  | _ => .int
abbrev wsX30 : List Cond := u_ws RX3 TX3 5
theorem nmX3 : ∀ a, a < 5 → ∀ b, b < 5 → a ≠ b → (TX3 a).2.1 ≠ (TX3 b).2.1 := by decide +kernel
theorem tyX3_ok : ∀ k, k < 5 → parseFieldDescriptor (TX3 k).2.2.1 = some (tyX3 k) := by decide +kernel
abbrev cX3_init : ByteArray := prog_5_method_1_code
def yX3_init : MethodName := ⟨RX3, "<init>", "()V"⟩
abbrev cX3_clear : ByteArray := prog_5_method_2_code
def yX3_clear : MethodName := ⟨RX3, "clear", "()V"⟩
abbrev cX3_copyFrom : ByteArray := prog_5_method_3_code
def yX3_copyFrom : MethodName := ⟨RX3, "copyFrom", "(LPupilsPupil$Formula;)V"⟩
abbrev cX3_isTold : ByteArray := prog_5_method_4_code
def yX3_isTold : MethodName := ⟨RX3, "isTold", "(I)Z"⟩
abbrev cX3_begin : ByteArray := prog_5_method_5_code
def yX3_begin : MethodName := ⟨RX3, "begin", "(I)V"⟩
abbrev cX3_finish : ByteArray := prog_5_method_6_code
def yX3_finish : MethodName := ⟨RX3, "finish", "(I)V"⟩
abbrev cX3_add : ByteArray := prog_5_method_7_code
def yX3_add : MethodName := ⟨RX3, "add", "(I)V"⟩
abbrev cX3_addSlot : ByteArray := prog_5_method_8_code
def yX3_addSlot : MethodName := ⟨RX3, "addSlot", "(I)V"⟩
abbrev cX3_value : ByteArray := prog_5_method_9_code
def yX3_value : MethodName := ⟨RX3, "value", "(I[I)I"⟩
abbrev cX3_joined : ByteArray := prog_5_method_10_code
def yX3_joined : MethodName := ⟨RX3, "joined", "(III)I"⟩
abbrev cX3_limited : ByteArray := prog_5_method_11_code
def yX3_limited : MethodName := ⟨RX3, "limited", "(J)I"⟩
def RX4 : String := "PupilsPupil$Grammar"
def TX4 : u_T := fun k => match k with
  | 0 => ("PupilsPupil$Grammar", "text", "LPupilsPupil$Text;", true)
  | 1 => ("PupilsPupil$Grammar", "into", "LPupilsPupil$Formula;", true)
  | _ => ("PupilsPupil$Grammar", "scope", "I", false)
def tyX4 : Nat → FieldType := fun k => match k with
  | 0 => .object "PupilsPupil$Text"
  | 1 => .object "PupilsPupil$Formula"
  | _ => .int
abbrev wsX40 : List Cond := u_ws RX4 TX4 3
theorem nmX4 : ∀ a, a < 3 → ∀ b, b < 3 → a ≠ b → (TX4 a).2.1 ≠ (TX4 b).2.1 := by decide +kernel
theorem tyX4_ok : ∀ k, k < 3 → parseFieldDescriptor (TX4 k).2.2.1 = some (tyX4 k) := by decide +kernel
abbrev cX4_init : ByteArray := prog_6_method_1_code
def yX4_init : MethodName := ⟨RX4, "<init>", "(LPupilsPupil$Text;LPupilsPupil$Formula;)V"⟩
abbrev cX4_readTest : ByteArray := prog_6_method_2_code
def yX4_readTest : MethodName := ⟨RX4, "readTest", "(I)Z"⟩
abbrev cX4_readBoth : ByteArray := prog_6_method_3_code
def yX4_readBoth : MethodName := ⟨RX4, "readBoth", "(I)Z"⟩
abbrev cX4_opens : ByteArray := prog_6_method_4_code
def yX4_opens : MethodName := ⟨RX4, "opens", "(I)Z"⟩
abbrev cX4_readClaim : ByteArray := prog_6_method_5_code
def yX4_readClaim : MethodName := ⟨RX4, "readClaim", "(I)Z"⟩
abbrev cX4_readSum : ByteArray := prog_6_method_6_code
def yX4_readSum : MethodName := ⟨RX4, "readSum", "(I)Z"⟩
abbrev cX4_readProduct : ByteArray := prog_6_method_7_code
def yX4_readProduct : MethodName := ⟨RX4, "readProduct", "(I)Z"⟩
abbrev cX4_readPart : ByteArray := prog_6_method_8_code
def yX4_readPart : MethodName := ⟨RX4, "readPart", "(I)Z"⟩
abbrev cX4_readPair : ByteArray := prog_6_method_9_code
def yX4_readPair : MethodName := ⟨RX4, "readPair", "(II)Z"⟩
def RX5 : String := "PupilsPupil$Question"
def TX5 : u_T := fun k => match k with
  | 0 => ("PupilsPupil$Question", "text", "LPupilsPupil$Text;", true)
  | 1 => ("PupilsPupil$Question", "school", "LPupilsPupil$School;", true)
  | 2 => ("PupilsPupil$Question", "now", "LPupilsPupil$State;", true)
  | 3 => ("PupilsPupil$Question", "formula", "LPupilsPupil$Formula;", true)
  | 4 => ("PupilsPupil$Question", "slots", "[I", true)
  | 5 => ("PupilsPupil$Question", "grammar", "LPupilsPupil$Grammar;", true)
  | _ => ("PupilsPupil$Question", "asked", "LPupilsPupil$Word;", false)
def tyX5 : Nat → FieldType := fun k => match k with
  | 0 => .object "PupilsPupil$Text"
  | 1 => .object "PupilsPupil$School"
  | 2 => .object "PupilsPupil$State"
  | 3 => .object "PupilsPupil$Formula"
  | 4 => .array .int
  | 5 => .object "PupilsPupil$Grammar"
  | _ => .object "PupilsPupil$Word"
abbrev wsX50 : List Cond := u_ws RX5 TX5 7
theorem nmX5 : ∀ a, a < 7 → ∀ b, b < 7 → a ≠ b → (TX5 a).2.1 ≠ (TX5 b).2.1 := by decide +kernel
theorem tyX5_ok : ∀ k, k < 7 → parseFieldDescriptor (TX5 k).2.2.1 = some (tyX5 k) := by decide +kernel
abbrev cX5_init : ByteArray := prog_7_method_1_code
def yX5_init : MethodName := ⟨RX5, "<init>", "(LPupilsPupil$Text;LPupilsPupil$School;LPupilsPupil$State;)V"⟩
abbrev cX5_read : ByteArray := prog_7_method_2_code
def yX5_read : MethodName := ⟨RX5, "read", "()Z"⟩
abbrev cX5_answerFor : ByteArray := prog_7_method_3_code
def yX5_answerFor : MethodName := ⟨RX5, "answerFor", "(I)J"⟩
abbrev cX5_fillSlots : ByteArray := prog_7_method_4_code
def yX5_fillSlots : MethodName := ⟨RX5, "fillSlots", "(II)V"⟩
def RX6 : String := "PupilsPupil$Rumour"
def TX6 : u_T := fun k => match k with
  | 0 => ("PupilsPupil$Rumour", "school", "LPupilsPupil$School;", true)
  | 1 => ("PupilsPupil$Rumour", "now", "LPupilsPupil$State;", true)
  | 2 => ("PupilsPupil$Rumour", "calendar", "LPupilsPupil$Calendar;", true)
  | 3 => ("PupilsPupil$Rumour", "trial", "LPupilsPupil$State;", true)
  | 4 => ("PupilsPupil$Rumour", "people", "[I", true)
  | 5 => ("PupilsPupil$Rumour", "beliefs", "[I", true)
  | 6 => ("PupilsPupil$Rumour", "rows", "I", false)
  | 7 => ("PupilsPupil$Rumour", "holders", "[I", true)
  | 8 => ("PupilsPupil$Rumour", "probed", "I", false)
  | _ => ("PupilsPupil$Rumour", "leftAtMost", "I", false)
def tyX6 : Nat → FieldType := fun k => match k with
  | 0 => .object "PupilsPupil$School"
  | 1 => .object "PupilsPupil$State"
  | 2 => .object "PupilsPupil$Calendar"
  | 3 => .object "PupilsPupil$State"
  | 4 => .array .int
  | 5 => .array .int
  | 6 => .int
  | 7 => .array .int
  | 8 => .int
  | _ => .int
abbrev wsX60 : List Cond := u_ws RX6 TX6 10
theorem nmX6 : ∀ a, a < 10 → ∀ b, b < 10 → a ≠ b → (TX6 a).2.1 ≠ (TX6 b).2.1 := by decide +kernel
theorem tyX6_ok : ∀ k, k < 10 → parseFieldDescriptor (TX6 k).2.2.1 = some (tyX6 k) := by decide +kernel
abbrev cX6_init : ByteArray := prog_8_method_1_code
def yX6_init : MethodName := ⟨RX6, "<init>", "(LPupilsPupil$School;LPupilsPupil$State;LPupilsPupil$Calendar;)V"⟩
abbrev cX6_take : ByteArray := prog_8_method_2_code
def yX6_take : MethodName := ⟨RX6, "take", "(LPupilsPupil$Text;)Z"⟩
abbrev cX6_findSources : ByteArray := prog_8_method_3_code
def yX6_findSources : MethodName := ⟨RX6, "findSources", "(II)I"⟩
abbrev cX6_supposeSource : ByteArray := prog_8_method_4_code
def yX6_supposeSource : MethodName := ⟨RX6, "supposeSource", "(IIII)V"⟩
abbrev cX6_agrees : ByteArray := prog_8_method_5_code
def yX6_agrees : MethodName := ⟨RX6, "agrees", "(I)Z"⟩
abbrev cX6_noteHolders : ByteArray := prog_8_method_6_code
def yX6_noteHolders : MethodName := ⟨RX6, "noteHolders", "(II)V"⟩
abbrev cX6_findProbe : ByteArray := prog_8_method_7_code
def yX6_findProbe : MethodName := ⟨RX6, "findProbe", "(I)V"⟩
abbrev cX6_mostLeft : ByteArray := prog_8_method_8_code
def yX6_mostLeft : MethodName := ⟨RX6, "mostLeft", "(II)I"⟩
def RX7 : String := "PupilsPupil$School"
def TX7 : u_T := fun k => match k with
  | 0 => ("PupilsPupil$School", "facts", "I", false)
  | 1 => ("PupilsPupil$School", "people", "I", false)
  | 2 => ("PupilsPupil$School", "enough", "I", false)
  | 3 => ("PupilsPupil$School", "triesTold", "I", false)
  | 4 => ("PupilsPupil$School", "illness", "I", false)
  | 5 => ("PupilsPupil$School", "factNames", "[I", true)
  | 6 => ("PupilsPupil$School", "worth", "[I", true)
  | 7 => ("PupilsPupil$School", "personNames", "[I", true)
  | 8 => ("PupilsPupil$School", "calm", "[I", true)
  | 9 => ("PupilsPupil$School", "tests", "LPupilsPupil$Formula;", true)
  | _ => ("PupilsPupil$School", "start", "LPupilsPupil$State;", true)
def tyX7 : Nat → FieldType := fun k => match k with
  | 0 => .int
  | 1 => .int
  | 2 => .int
  | 3 => .int
  | 4 => .int
  | 5 => .array .int
  | 6 => .array .int
  | 7 => .array .int
  | 8 => .array .int
  | 9 => .object "PupilsPupil$Formula"
  | _ => .object "PupilsPupil$State"
abbrev wsX70 : List Cond := u_ws RX7 TX7 11
theorem nmX7 : ∀ a, a < 11 → ∀ b, b < 11 → a ≠ b → (TX7 a).2.1 ≠ (TX7 b).2.1 := by decide +kernel
theorem tyX7_ok : ∀ k, k < 11 → parseFieldDescriptor (TX7 k).2.2.1 = some (tyX7 k) := by decide +kernel
abbrev cX7_init : ByteArray := prog_9_method_1_code
def yX7_init : MethodName := ⟨RX7, "<init>", "()V"⟩
abbrev cX7_clear : ByteArray := prog_9_method_2_code
def yX7_clear : MethodName := ⟨RX7, "clear", "()V"⟩
abbrev cX7_copyFrom : ByteArray := prog_9_method_3_code
def yX7_copyFrom : MethodName := ⟨RX7, "copyFrom", "(LPupilsPupil$School;)V"⟩
abbrev cX7_marksIn : ByteArray := prog_9_method_4_code
def yX7_marksIn : MethodName := ⟨RX7, "marksIn", "(LPupilsPupil$State;I)I"⟩
abbrev cX7_placeOf : ByteArray := prog_9_method_5_code
def yX7_placeOf : MethodName := ⟨RX7, "placeOf", "(I[II)I"⟩
def RX8 : String := "PupilsPupil$SchoolReader"
def TX8 : u_T := fun k => match k with
  | 0 => ("PupilsPupil$SchoolReader", "text", "LPupilsPupil$Text;", true)
  | 1 => ("PupilsPupil$SchoolReader", "draft", "LPupilsPupil$School;", true)
  | _ => ("PupilsPupil$SchoolReader", "grammar", "LPupilsPupil$Grammar;", true)
def tyX8 : Nat → FieldType := fun k => match k with
  | 0 => .object "PupilsPupil$Text"
  | 1 => .object "PupilsPupil$School"
  | _ => .object "PupilsPupil$Grammar"
abbrev wsX80 : List Cond := u_ws RX8 TX8 3
theorem nmX8 : ∀ a, a < 3 → ∀ b, b < 3 → a ≠ b → (TX8 a).2.1 ≠ (TX8 b).2.1 := by decide +kernel
theorem tyX8_ok : ∀ k, k < 3 → parseFieldDescriptor (TX8 k).2.2.1 = some (tyX8 k) := by decide +kernel
abbrev cX8_init : ByteArray := prog_10_method_1_code
def yX8_init : MethodName := ⟨RX8, "<init>", "(LPupilsPupil$Text;)V"⟩
abbrev cX8_read : ByteArray := prog_10_method_2_code
def yX8_read : MethodName := ⟨RX8, "read", "()I"⟩
abbrev cX8_readStatement : ByteArray := prog_10_method_3_code
def yX8_readStatement : MethodName := ⟨RX8, "readStatement", "()Z"⟩
abbrev cX8_readFact : ByteArray := prog_10_method_4_code
def yX8_readFact : MethodName := ⟨RX8, "readFact", "()Z"⟩
abbrev cX8_readPerson : ByteArray := prog_10_method_5_code
def yX8_readPerson : MethodName := ⟨RX8, "readPerson", "()Z"⟩
abbrev cX8_takeNewName : ByteArray := prog_10_method_6_code
def yX8_takeNewName : MethodName := ⟨RX8, "takeNewName", "()I"⟩
abbrev cX8_takeKnown : ByteArray := prog_10_method_7_code
def yX8_takeKnown : MethodName := ⟨RX8, "takeKnown", "([II)I"⟩
abbrev cX8_readBelief : ByteArray := prog_10_method_8_code
def yX8_readBelief : MethodName := ⟨RX8, "readBelief", "(I)Z"⟩
abbrev cX8_readTaught : ByteArray := prog_10_method_9_code
def yX8_readTaught : MethodName := ⟨RX8, "readTaught", "()Z"⟩
abbrev cX8_readLaw : ByteArray := prog_10_method_10_code
def yX8_readLaw : MethodName := ⟨RX8, "readLaw", "(II)Z"⟩
abbrev cX8_readEnough : ByteArray := prog_10_method_11_code
def yX8_readEnough : MethodName := ⟨RX8, "readEnough", "()Z"⟩
abbrev cX8_readTries : ByteArray := prog_10_method_12_code
def yX8_readTries : MethodName := ⟨RX8, "readTries", "()Z"⟩
abbrev cX8_readIllness : ByteArray := prog_10_method_13_code
def yX8_readIllness : MethodName := ⟨RX8, "readIllness", "()Z"⟩
def RX9 : String := "PupilsPupil$State"
def TX9 : u_T := fun k => match k with
  | 0 => ("PupilsPupil$State", "year", "I", false)
  | 1 => ("PupilsPupil$State", "passed", "I", false)
  | 2 => ("PupilsPupil$State", "doctors", "I", false)
  | 3 => ("PupilsPupil$State", "keptCount", "I", false)
  | 4 => ("PupilsPupil$State", "masters", "[I", true)
  | 5 => ("PupilsPupil$State", "right", "[I", true)
  | 6 => ("PupilsPupil$State", "wrong", "[I", true)
  | 7 => ("PupilsPupil$State", "left", "[I", true)
  | _ => ("PupilsPupil$State", "keptRows", "[I", true)
def tyX9 : Nat → FieldType := fun k => match k with
  | 0 => .int
  | 1 => .int
  | 2 => .int
  | 3 => .int
  | 4 => .array .int
  | 5 => .array .int
  | 6 => .array .int
  | 7 => .array .int
  | _ => .array .int
abbrev wsX90 : List Cond := u_ws RX9 TX9 9
theorem nmX9 : ∀ a, a < 9 → ∀ b, b < 9 → a ≠ b → (TX9 a).2.1 ≠ (TX9 b).2.1 := by decide +kernel
theorem tyX9_ok : ∀ k, k < 9 → parseFieldDescriptor (TX9 k).2.2.1 = some (tyX9 k) := by decide +kernel
abbrev cX9_init : ByteArray := prog_11_method_1_code
def yX9_init : MethodName := ⟨RX9, "<init>", "()V"⟩
abbrev cX9_clear : ByteArray := prog_11_method_2_code
def yX9_clear : MethodName := ⟨RX9, "clear", "()V"⟩
abbrev cX9_copyFrom : ByteArray := prog_11_method_3_code
def yX9_copyFrom : MethodName := ⟨RX9, "copyFrom", "(LPupilsPupil$State;)V"⟩
abbrev cX9_isPlace : ByteArray := prog_11_method_4_code
def yX9_isPlace : MethodName := ⟨RX9, "isPlace", "(I)Z"⟩
abbrev cX9_masterOf : ByteArray := prog_11_method_5_code
def yX9_masterOf : MethodName := ⟨RX9, "masterOf", "(I)I"⟩
abbrev cX9_setMaster : ByteArray := prog_11_method_6_code
def yX9_setMaster : MethodName := ⟨RX9, "setMaster", "(II)V"⟩
abbrev cX9_isAbove : ByteArray := prog_11_method_7_code
def yX9_isAbove : MethodName := ⟨RX9, "isAbove", "(II)Z"⟩
abbrev cX9_pupilsOf : ByteArray := prog_11_method_8_code
def yX9_pupilsOf : MethodName := ⟨RX9, "pupilsOf", "(I)I"⟩
abbrev cX9_lessonsFor : ByteArray := prog_11_method_9_code
def yX9_lessonsFor : MethodName := ⟨RX9, "lessonsFor", "(II)I"⟩
abbrev cX9_beliefOf : ByteArray := prog_11_method_10_code
def yX9_beliefOf : MethodName := ⟨RX9, "beliefOf", "(II)I"⟩
abbrev cX9_believe : ByteArray := prog_11_method_11_code
def yX9_believe : MethodName := ⟨RX9, "believe", "(III)V"⟩
abbrev cX9_keep : ByteArray := prog_11_method_12_code
def yX9_keep : MethodName := ⟨RX9, "keep", "(II)V"⟩
abbrev cX9_writeImage : ByteArray := prog_11_method_13_code
def yX9_writeImage : MethodName := ⟨RX9, "writeImage", "([II)I"⟩
abbrev cX9_readImage : ByteArray := prog_11_method_14_code
def yX9_readImage : MethodName := ⟨RX9, "readImage", "(LPupilsPupil$Text;LPupilsPupil$School;)Z"⟩
abbrev cX9_isSummed : ByteArray := prog_11_method_15_code
def yX9_isSummed : MethodName := ⟨RX9, "isSummed", "(LPupilsPupil$Text;I)Z"⟩
abbrev cX9_readRow : ByteArray := prog_11_method_16_code
def yX9_readRow : MethodName := ⟨RX9, "readRow", "(LPupilsPupil$Text;ILPupilsPupil$School;)Z"⟩
def RX10 : String := "PupilsPupil$Text"
def TX10 : u_T := fun k => match k with
  | 0 => ("PupilsPupil$Text", "bytes", "[I", true)
  | 1 => ("PupilsPupil$Text", "length", "I", false)
  | 2 => ("PupilsPupil$Text", "fault", "I", false)
  | 3 => ("PupilsPupil$Text", "place", "I", false)
  | 4 => ("PupilsPupil$Text", "start", "I", false)
  | 5 => ("PupilsPupil$Text", "stop", "I", false)
  | 6 => ("PupilsPupil$Text", "kind", "I", false)
  | 7 => ("PupilsPupil$Text", "packed", "I", false)
  | _ => ("PupilsPupil$Text", "value", "I", false)
def tyX10 : Nat → FieldType := fun k => match k with
  | 0 => .array .int
  | 1 => .int
  | 2 => .int
  | 3 => .int
  | 4 => .int
  | 5 => .int
  | 6 => .int
  | 7 => .int
  | _ => .int
abbrev wsX100 : List Cond := u_ws RX10 TX10 9
theorem nmX10 : ∀ a, a < 9 → ∀ b, b < 9 → a ≠ b → (TX10 a).2.1 ≠ (TX10 b).2.1 := by decide +kernel
theorem tyX10_ok : ∀ k, k < 9 → parseFieldDescriptor (TX10 k).2.2.1 = some (tyX10 k) := by decide +kernel
abbrev cX10_init : ByteArray := prog_12_method_1_code
def yX10_init : MethodName := ⟨RX10, "<init>", "()V"⟩
abbrev cX10_append : ByteArray := prog_12_method_2_code
def yX10_append : MethodName := ⟨RX10, "append", "(I)V"⟩
abbrev cX10_byteAt : ByteArray := prog_12_method_3_code
def yX10_byteAt : MethodName := ⟨RX10, "byteAt", "(I)I"⟩
abbrev cX10_open : ByteArray := prog_12_method_4_code
def yX10_open : MethodName := ⟨RX10, "open", "()V"⟩
abbrev cX10_fail : ByteArray := prog_12_method_5_code
def yX10_fail : MethodName := ⟨RX10, "fail", "(II)Z"⟩
abbrev cX10_failHere : ByteArray := prog_12_method_6_code
def yX10_failHere : MethodName := ⟨RX10, "failHere", "()Z"⟩
abbrev cX10_advance : ByteArray := prog_12_method_7_code
def yX10_advance : MethodName := ⟨RX10, "advance", "()V"⟩
abbrev cX10_isWord : ByteArray := prog_12_method_8_code
def yX10_isWord : MethodName := ⟨RX10, "isWord", "(LPupilsPupil$Word;)Z"⟩
abbrev cX10_knownWord : ByteArray := prog_12_method_9_code
def yX10_knownWord : MethodName := ⟨RX10, "knownWord", "()LPupilsPupil$Word;"⟩
abbrev cX10_expectWord : ByteArray := prog_12_method_10_code
def yX10_expectWord : MethodName := ⟨RX10, "expectWord", "(LPupilsPupil$Word;)Z"⟩
abbrev cX10_expectSign : ByteArray := prog_12_method_11_code
def yX10_expectSign : MethodName := ⟨RX10, "expectSign", "(C)Z"⟩
abbrev cX10_takeNumber : ByteArray := prog_12_method_12_code
def yX10_takeNumber : MethodName := ⟨RX10, "takeNumber", "(II)I"⟩
abbrev cX10_takeName : ByteArray := prog_12_method_13_code
def yX10_takeName : MethodName := ⟨RX10, "takeName", "()I"⟩
def RX11 : String := "PupilsPupil$Word"
def TX11 : u_T := fun k => match k with
  | _ => ("", "", "", false)
def tyX11 : Nat → FieldType := fun k => match k with
  | _ => .int
abbrev wsX110 : List Cond := u_ws RX11 TX11 0
theorem nmX11 : ∀ a, a < 0 → ∀ b, b < 0 → a ≠ b → (TX11 a).2.1 ≠ (TX11 b).2.1 := by decide +kernel
theorem tyX11_ok : ∀ k, k < 0 → parseFieldDescriptor (TX11 k).2.2.1 = some (tyX11 k) := by decide +kernel
abbrev cX11_of : ByteArray := prog_13_method_7_code
def yX11_of : MethodName := ⟨RX11, "of", "(I)LPupilsPupil$Word;"⟩
def RX12 : String := "PupilsPupil"
def TX12 : u_T := fun k => match k with
  | 0 => ("PupilsPupil", "text", "LPupilsPupil$Text;", true)
  | 1 => ("PupilsPupil", "school", "LPupilsPupil$School;", true)
  | 2 => ("PupilsPupil", "now", "LPupilsPupil$State;", true)
  | 3 => ("PupilsPupil", "loaded", "LPupilsPupil$State;", true)
  | 4 => ("PupilsPupil", "past", "[LPupilsPupil$State;", true)
  | 5 => ("PupilsPupil", "pastFirst", "I", false)
  | 6 => ("PupilsPupil", "pastCount", "I", false)
  | 7 => ("PupilsPupil", "calendar", "LPupilsPupil$Calendar;", true)
  | 8 => ("PupilsPupil", "foresight", "LPupilsPupil$Foresight;", true)
  | 9 => ("PupilsPupil", "rumour", "LPupilsPupil$Rumour;", true)
  | 10 => ("PupilsPupil", "schoolReader", "LPupilsPupil$SchoolReader;", true)
  | 11 => ("PupilsPupil", "question", "LPupilsPupil$Question;", true)
  | 12 => ("PupilsPupil", "refused", "[I", true)
  | 13 => ("PupilsPupil", "imageBytes", "[I", true)
  | 14 => ("PupilsPupil", "imageLength", "I", false)
  | _ => ("PupilsPupil", "drawn", "I", false)
def tyX12 : Nat → FieldType := fun k => match k with
  | 0 => .object "PupilsPupil$Text"
  | 1 => .object "PupilsPupil$School"
  | 2 => .object "PupilsPupil$State"
  | 3 => .object "PupilsPupil$State"
  | 4 => .array (.object "PupilsPupil$State")
  | 5 => .int
  | 6 => .int
  | 7 => .object "PupilsPupil$Calendar"
  | 8 => .object "PupilsPupil$Foresight"
  | 9 => .object "PupilsPupil$Rumour"
  | 10 => .object "PupilsPupil$SchoolReader"
  | 11 => .object "PupilsPupil$Question"
  | 12 => .array .int
  | 13 => .array .int
  | 14 => .int
  | _ => .int
abbrev wsX120 : List Cond := u_ws RX12 TX12 16
theorem nmX12 : ∀ a, a < 16 → ∀ b, b < 16 → a ≠ b → (TX12 a).2.1 ≠ (TX12 b).2.1 := by decide +kernel
theorem tyX12_ok : ∀ k, k < 16 → parseFieldDescriptor (TX12 k).2.2.1 = some (tyX12 k) := by decide +kernel
abbrev cX12_init : ByteArray := prog_1_method_1_code
def yX12_init : MethodName := ⟨RX12, "<init>", "()V"⟩
abbrev cX12_feed : ByteArray := prog_1_method_2_code
def yX12_feed : MethodName := ⟨RX12, "feed", "(IIIII)I"⟩
abbrev cX12_end : ByteArray := prog_1_method_3_code
def yX12_end : MethodName := ⟨RX12, "end", "(I)Z"⟩
abbrev cX12_school : ByteArray := prog_1_method_4_code
def yX12_school : MethodName := ⟨RX12, "school", "()I"⟩
abbrev cX12_fault : ByteArray := prog_1_method_5_code
def yX12_fault : MethodName := ⟨RX12, "fault", "(I)I"⟩
abbrev cX12_has : ByteArray := prog_1_method_6_code
def yX12_has : MethodName := ⟨RX12, "has", "(I)I"⟩
abbrev cX12_letter : ByteArray := prog_1_method_7_code
def yX12_letter : MethodName := ⟨RX12, "letter", "(III)I"⟩
abbrev cX12_fact : ByteArray := prog_1_method_8_code
def yX12_fact : MethodName := ⟨RX12, "fact", "(II)I"⟩
abbrev cX12_person : ByteArray := prog_1_method_9_code
def yX12_person : MethodName := ⟨RX12, "person", "(II)I"⟩
abbrev cX12_marks : ByteArray := prog_1_method_10_code
def yX12_marks : MethodName := ⟨RX12, "marks", "(I)J"⟩
abbrev cX12_next : ByteArray := prog_1_method_11_code
def yX12_next : MethodName := ⟨RX12, "next", "(I)I"⟩
abbrev cX12_kept : ByteArray := prog_1_method_12_code
def yX12_kept : MethodName := ⟨RX12, "kept", "(II)I"⟩
abbrev cX12_later : ByteArray := prog_1_method_13_code
def yX12_later : MethodName := ⟨RX12, "later", "(II)I"⟩
abbrev cX12_doctor : ByteArray := prog_1_method_14_code
def yX12_doctor : MethodName := ⟨RX12, "doctor", "(I)I"⟩
abbrev cX12_lost : ByteArray := prog_1_method_15_code
def yX12_lost : MethodName := ⟨RX12, "lost", "(I)I"⟩
abbrev cX12_master : ByteArray := prog_1_method_16_code
def yX12_master : MethodName := ⟨RX12, "master", "(II)I"⟩
abbrev cX12_gift : ByteArray := prog_1_method_17_code
def yX12_gift : MethodName := ⟨RX12, "gift", "(III)I"⟩
abbrev cX12_law : ByteArray := prog_1_method_18_code
def yX12_law : MethodName := ⟨RX12, "law", "(II)I"⟩
abbrev cX12_hear : ByteArray := prog_1_method_19_code
def yX12_hear : MethodName := ⟨RX12, "hear", "()I"⟩
abbrev cX12_sources : ByteArray := prog_1_method_20_code
def yX12_sources : MethodName := ⟨RX12, "sources", "(II)I"⟩
abbrev cX12_probe : ByteArray := prog_1_method_21_code
def yX12_probe : MethodName := ⟨RX12, "probe", "(III)I"⟩
abbrev cX12_part : ByteArray := prog_1_method_22_code
def yX12_part : MethodName := ⟨RX12, "part", "(II)I"⟩
abbrev cX12_teach : ByteArray := prog_1_method_23_code
def yX12_teach : MethodName := ⟨RX12, "teach", "(II)Z"⟩
abbrev cX12_tell : ByteArray := prog_1_method_24_code
def yX12_tell : MethodName := ⟨RX12, "tell", "(II)Z"⟩
abbrev cX12_years : ByteArray := prog_1_method_25_code
def yX12_years : MethodName := ⟨RX12, "years", "(I)I"⟩
abbrev cX12_chance : ByteArray := prog_1_method_26_code
def yX12_chance : MethodName := ⟨RX12, "chance", "(I)I"⟩
abbrev cX12_undo : ByteArray := prog_1_method_27_code
def yX12_undo : MethodName := ⟨RX12, "undo", "()Z"⟩
abbrev cX12_seed : ByteArray := prog_1_method_28_code
def yX12_seed : MethodName := ⟨RX12, "seed", "(I)Z"⟩
abbrev cX12_ask : ByteArray := prog_1_method_29_code
def yX12_ask : MethodName := ⟨RX12, "ask", "(I)J"⟩
abbrev cX12_image : ByteArray := prog_1_method_30_code
def yX12_image : MethodName := ⟨RX12, "image", "()I"⟩
abbrev cX12_octet : ByteArray := prog_1_method_31_code
def yX12_octet : MethodName := ⟨RX12, "octet", "(I)I"⟩
abbrev cX12_on : ByteArray := prog_1_method_32_code
def yX12_on : MethodName := ⟨RX12, "on", "()Z"⟩
abbrev cX12_status : ByteArray := prog_1_method_33_code
def yX12_status : MethodName := ⟨RX12, "status", "(I)I"⟩
abbrev cX12_refuse : ByteArray := prog_1_method_34_code
def yX12_refuse : MethodName := ⟨RX12, "refuse", "(I)I"⟩
abbrev cX12_deny : ByteArray := prog_1_method_35_code
def yX12_deny : MethodName := ⟨RX12, "deny", "(I)Z"⟩
abbrev cX12_isFact : ByteArray := prog_1_method_36_code
def yX12_isFact : MethodName := ⟨RX12, "isFact", "(I)Z"⟩
abbrev cX12_isPerson : ByteArray := prog_1_method_37_code
def yX12_isPerson : MethodName := ⟨RX12, "isPerson", "(I)Z"⟩
abbrev cX12_isPairPart : ByteArray := prog_1_method_38_code
def yX12_isPairPart : MethodName := ⟨RX12, "isPairPart", "(I)Z"⟩
abbrev cX12_hasBit : ByteArray := prog_1_method_39_code
def yX12_hasBit : MethodName := ⟨RX12, "hasBit", "(II)Z"⟩
abbrev cX12_countBits : ByteArray := prog_1_method_40_code
def yX12_countBits : MethodName := ⟨RX12, "countBits", "([I)I"⟩
abbrev cX12_whoHas : ByteArray := prog_1_method_41_code
def yX12_whoHas : MethodName := ⟨RX12, "whoHas", "([II)I"⟩
abbrev cX12_isParted : ByteArray := prog_1_method_42_code
def yX12_isParted : MethodName := ⟨RX12, "isParted", "(III)Z"⟩
abbrev cX12_canRun : ByteArray := prog_1_method_43_code
def yX12_canRun : MethodName := ⟨RX12, "canRun", "(I)Z"⟩
abbrev cX12_drawIll : ByteArray := prog_1_method_44_code
def yX12_drawIll : MethodName := ⟨RX12, "drawIll", "()I"⟩
abbrev cX12_remember : ByteArray := prog_1_method_45_code
def yX12_remember : MethodName := ⟨RX12, "remember", "()V"⟩
abbrev cX12_forgetPast : ByteArray := prog_1_method_46_code
def yX12_forgetPast : MethodName := ⟨RX12, "forgetPast", "()V"⟩
def RX13 : String := "PupilsPupilModel"
def TX13 : u_T := fun k => match k with
  | 0 => ("PupilsPupilModel", "tape", "[I", true)
  | 1 => ("PupilsPupilModel", "taped", "I", false)
  | 2 => ("PupilsPupilModel", "at", "I", false)
  | 3 => ("PupilsPupilModel", "end", "I", false)
  | 4 => ("PupilsPupilModel", "ended", "I", false)
  | 5 => ("PupilsPupilModel", "bad", "I", false)
  | 6 => ("PupilsPupilModel", "badPlace", "I", false)
  | 7 => ("PupilsPupilModel", "fault", "I", false)
  | 8 => ("PupilsPupilModel", "faultPlace", "I", false)
  | 9 => ("PupilsPupilModel", "refused", "[I", true)
  | 10 => ("PupilsPupilModel", "factWord", "[C", true)
  | 11 => ("PupilsPupilModel", "worthWord", "[C", true)
  | 12 => ("PupilsPupilModel", "personWord", "[C", true)
  | 13 => ("PupilsPupilModel", "calmWord", "[C", true)
  | 14 => ("PupilsPupilModel", "knowsWord", "[C", true)
  | 15 => ("PupilsPupilModel", "errsWord", "[C", true)
  | 16 => ("PupilsPupilModel", "taughtWord", "[C", true)
  | 17 => ("PupilsPupilModel", "byWord", "[C", true)
  | 18 => ("PupilsPupilModel", "takesWord", "[C", true)
  | 19 => ("PupilsPupilModel", "garbleWord", "[C", true)
  | 20 => ("PupilsPupilModel", "sitsWord", "[C", true)
  | 21 => ("PupilsPupilModel", "passWord", "[C", true)
  | 22 => ("PupilsPupilModel", "triesWord", "[C", true)
  | 23 => ("PupilsPupilModel", "illWord", "[C", true)
  | 24 => ("PupilsPupilModel", "rightWord", "[C", true)
  | 25 => ("PupilsPupilModel", "wrongWord", "[C", true)
  | 26 => ("PupilsPupilModel", "yearWord", "[C", true)
  | 27 => ("PupilsPupilModel", "classWord", "[C", true)
  | 28 => ("PupilsPupilModel", "mcalmWord", "[C", true)
  | 29 => ("PupilsPupilModel", "leftWord", "[C", true)
  | 30 => ("PupilsPupilModel", "marksWord", "[C", true)
  | 31 => ("PupilsPupilModel", "numberWord", "[C", true)
  | 32 => ("PupilsPupilModel", "orWord", "[C", true)
  | 33 => ("PupilsPupilModel", "andWord", "[C", true)
  | 34 => ("PupilsPupilModel", "notWord", "[C", true)
  | 35 => ("PupilsPupilModel", "allWord", "[C", true)
  | 36 => ("PupilsPupilModel", "minWord", "[C", true)
  | 37 => ("PupilsPupilModel", "maxWord", "[C", true)
  | 38 => ("PupilsPupilModel", "namePlace", "I", false)
  | 39 => ("PupilsPupilModel", "many", "[I", true)
  | 40 => ("PupilsPupilModel", "names", "[J", true)
  | 41 => ("PupilsPupilModel", "worths", "[I", true)
  | 42 => ("PupilsPupilModel", "calms", "[I", true)
  | 43 => ("PupilsPupilModel", "rights", "[I", true)
  | 44 => ("PupilsPupilModel", "wrongs", "[I", true)
  | 45 => ("PupilsPupilModel", "masters", "[I", true)
  | 46 => ("PupilsPupilModel", "settings", "[I", true)
  | 47 => ("PupilsPupilModel", "codeFrom", "[I", true)
  | 48 => ("PupilsPupilModel", "codeEnd", "[I", true)
  | 49 => ("PupilsPupilModel", "codes", "[I", true)
  | 50 => ("PupilsPupilModel", "coded", "I", false)
  | 51 => ("PupilsPupilModel", "statements", "I", false)
  | 52 => ("PupilsPupilModel", "textKind", "I", false)
  | 53 => ("PupilsPupilModel", "now", "[I", true)
  | 54 => ("PupilsPupilModel", "aside", "[I", true)
  | 55 => ("PupilsPupilModel", "askWho", "I", false)
  | 56 => ("PupilsPupilModel", "teaching", "[I", true)
  | 57 => ("PupilsPupilModel", "learned", "[I", true)
  | 58 => ("PupilsPupilModel", "isThought", "Z", false)
  | 59 => ("PupilsPupilModel", "passedMany", "I", false)
  | 60 => ("PupilsPupilModel", "rowMany", "I", false)
  | 61 => ("PupilsPupilModel", "rows", "[I", true)
  | 62 => ("PupilsPupilModel", "heard", "[I", true)
  | 63 => ("PupilsPupilModel", "classes", "[I", true)
  | 64 => ("PupilsPupilModel", "kept0", "[I", true)
  | 65 => ("PupilsPupilModel", "undoable", "I", false)
  | 66 => ("PupilsPupilModel", "newest", "I", false)
  | 67 => ("PupilsPupilModel", "seeded", "J", false)
  | 68 => ("PupilsPupilModel", "firstAsked", "[C", true)
  | 69 => ("PupilsPupilModel", "lastAsked", "[C", true)
  | 70 => ("PupilsPupilModel", "oftenAsked", "[C", true)
  | 71 => ("PupilsPupilModel", "totalAsked", "[C", true)
  | 72 => ("PupilsPupilModel", "mostAsked", "[C", true)
  | 73 => ("PupilsPupilModel", "leastAsked", "[C", true)
  | 74 => ("PupilsPupilModel", "notAsked", "[C", true)
  | 75 => ("PupilsPupilModel", "andAsked", "[C", true)
  | 76 => ("PupilsPupilModel", "orAsked", "[C", true)
  | 77 => ("PupilsPupilModel", "allAsked", "[C", true)
  | 78 => ("PupilsPupilModel", "minAsked", "[C", true)
  | 79 => ("PupilsPupilModel", "maxAsked", "[C", true)
  | 80 => ("PupilsPupilModel", "calmAsked", "[C", true)
  | 81 => ("PupilsPupilModel", "rightAsked", "[C", true)
  | 82 => ("PupilsPupilModel", "wrongAsked", "[C", true)
  | 83 => ("PupilsPupilModel", "yearAsked", "[C", true)
  | 84 => ("PupilsPupilModel", "worthAsked", "[C", true)
  | 85 => ("PupilsPupilModel", "classAsked", "[C", true)
  | 86 => ("PupilsPupilModel", "mcalmAsked", "[C", true)
  | 87 => ("PupilsPupilModel", "leftAsked", "[C", true)
  | 88 => ("PupilsPupilModel", "marksAsked", "[C", true)
  | 89 => ("PupilsPupilModel", "numberAsked", "[C", true)
  | 90 => ("PupilsPupilModel", "knowsAsked", "[C", true)
  | 91 => ("PupilsPupilModel", "errsAsked", "[C", true)
  | 92 => ("PupilsPupilModel", "byAsked", "[C", true)
  | 93 => ("PupilsPupilModel", "qCodes", "[I", true)
  | 94 => ("PupilsPupilModel", "qCoded", "I", false)
  | 95 => ("PupilsPupilModel", "qWait", "[I", true)
  | 96 => ("PupilsPupilModel", "qWaits", "I", false)
  | 97 => ("PupilsPupilModel", "qOpened", "I", false)
  | 98 => ("PupilsPupilModel", "qBase", "I", false)
  | 99 => ("PupilsPupilModel", "qPile", "[J", true)
  | 100 => ("PupilsPupilModel", "qPiled", "I", false)
  | 101 => ("PupilsPupilModel", "qAnswer", "J", false)
  | 102 => ("PupilsPupilModel", "qIsNew", "Z", false)
  | 103 => ("PupilsPupilModel", "octet", "[I", true)
  | _ => ("PupilsPupilModel", "octets", "I", false)
def tyX13 : Nat → FieldType := fun k => match k with
  | 0 => .array .int
  | 1 => .int
  | 2 => .int
  | 3 => .int
  | 4 => .int
  | 5 => .int
  | 6 => .int
  | 7 => .int
  | 8 => .int
  | 9 => .array .int
  | 10 => .array .char
  | 11 => .array .char
  | 12 => .array .char
  | 13 => .array .char
  | 14 => .array .char
  | 15 => .array .char
  | 16 => .array .char
  | 17 => .array .char
  | 18 => .array .char
  | 19 => .array .char
  | 20 => .array .char
  | 21 => .array .char
  | 22 => .array .char
  | 23 => .array .char
  | 24 => .array .char
  | 25 => .array .char
  | 26 => .array .char
  | 27 => .array .char
  | 28 => .array .char
  | 29 => .array .char
  | 30 => .array .char
  | 31 => .array .char
  | 32 => .array .char
  | 33 => .array .char
  | 34 => .array .char
  | 35 => .array .char
  | 36 => .array .char
  | 37 => .array .char
  | 38 => .int
  | 39 => .array .int
  | 40 => .array .long
  | 41 => .array .int
  | 42 => .array .int
  | 43 => .array .int
  | 44 => .array .int
  | 45 => .array .int
  | 46 => .array .int
  | 47 => .array .int
  | 48 => .array .int
  | 49 => .array .int
  | 50 => .int
  | 51 => .int
  | 52 => .int
  | 53 => .array .int
  | 54 => .array .int
  | 55 => .int
  | 56 => .array .int
  | 57 => .array .int
  | 58 => .boolean
  | 59 => .int
  | 60 => .int
  | 61 => .array .int
  | 62 => .array .int
  | 63 => .array .int
  | 64 => .array .int
  | 65 => .int
  | 66 => .int
  | 67 => .long
  | 68 => .array .char
  | 69 => .array .char
  | 70 => .array .char
  | 71 => .array .char
  | 72 => .array .char
  | 73 => .array .char
  | 74 => .array .char
  | 75 => .array .char
  | 76 => .array .char
  | 77 => .array .char
  | 78 => .array .char
  | 79 => .array .char
  | 80 => .array .char
  | 81 => .array .char
  | 82 => .array .char
  | 83 => .array .char
  | 84 => .array .char
  | 85 => .array .char
  | 86 => .array .char
  | 87 => .array .char
  | 88 => .array .char
  | 89 => .array .char
  | 90 => .array .char
  | 91 => .array .char
  | 92 => .array .char
  | 93 => .array .int
  | 94 => .int
  | 95 => .array .int
  | 96 => .int
  | 97 => .int
  | 98 => .int
  | 99 => .array .long
  | 100 => .int
  | 101 => .long
  | 102 => .boolean
  | 103 => .array .int
  | _ => .int
abbrev wsX130 : List Cond := u_ws RX13 TX13 105
theorem nmX13 : ∀ a, a < 105 → ∀ b, b < 105 → a ≠ b → (TX13 a).2.1 ≠ (TX13 b).2.1 := by decide +kernel
theorem tyX13_ok : ∀ k, k < 105 → parseFieldDescriptor (TX13 k).2.2.1 = some (tyX13 k) := by decide +kernel
abbrev cX13_init : ByteArray := prog_15_method_1_code
def yX13_init : MethodName := ⟨RX13, "<init>", "()V"⟩
abbrev cX13_isIn : ByteArray := prog_15_method_2_code
def yX13_isIn : MethodName := ⟨RX13, "isIn", "(JJJ)Z"⟩
abbrev cX13_feed : ByteArray := prog_15_method_3_code
def yX13_feed : MethodName := ⟨RX13, "feed", "(IIIII)I"⟩
abbrev cX13_end : ByteArray := prog_15_method_4_code
def yX13_end : MethodName := ⟨RX13, "end", "(I)Z"⟩
abbrev cX13_fail : ByteArray := prog_15_method_5_code
def yX13_fail : MethodName := ⟨RX13, "fail", "(II)V"⟩
abbrev cX13_isLetter : ByteArray := prog_15_method_6_code
def yX13_isLetter : MethodName := ⟨RX13, "isLetter", "(I)Z"⟩
abbrev cX13_isDigit : ByteArray := prog_15_method_7_code
def yX13_isDigit : MethodName := ⟨RX13, "isDigit", "(I)Z"⟩
abbrev cX13_look : ByteArray := prog_15_method_8_code
def yX13_look : MethodName := ⟨RX13, "look", "()I"⟩
abbrev cX13_isHere : ByteArray := prog_15_method_9_code
def yX13_isHere : MethodName := ⟨RX13, "isHere", "([C)Z"⟩
abbrev cX13_takes : ByteArray := prog_15_method_10_code
def yX13_takes : MethodName := ⟨RX13, "takes", "([C)Z"⟩
abbrev cX13_asks : ByteArray := prog_15_method_11_code
def yX13_asks : MethodName := ⟨RX13, "asks", "([C)V"⟩
abbrev cX13_takesSign : ByteArray := prog_15_method_12_code
def yX13_takesSign : MethodName := ⟨RX13, "takesSign", "(I)Z"⟩
abbrev cX13_asksSign : ByteArray := prog_15_method_13_code
def yX13_asksSign : MethodName := ⟨RX13, "asksSign", "(I)V"⟩
abbrev cX13_number : ByteArray := prog_15_method_14_code
def yX13_number : MethodName := ⟨RX13, "number", "(II)I"⟩
abbrev cX13_isOwnHere : ByteArray := prog_15_method_15_code
def yX13_isOwnHere : MethodName := ⟨RX13, "isOwnHere", "()Z"⟩
abbrev cX13_name : ByteArray := prog_15_method_16_code
def yX13_name : MethodName := ⟨RX13, "name", "()J"⟩
abbrev cX13_isAllowed : ByteArray := prog_15_method_17_code
def yX13_isAllowed : MethodName := ⟨RX13, "isAllowed", "(I)Z"⟩
abbrev cX13_isFull : ByteArray := prog_15_method_18_code
def yX13_isFull : MethodName := ⟨RX13, "isFull", "(III)Z"⟩
abbrev cX13_nameOf : ByteArray := prog_15_method_19_code
def yX13_nameOf : MethodName := ⟨RX13, "nameOf", "(IJ)I"⟩
abbrev cX13_newName : ByteArray := prog_15_method_20_code
def yX13_newName : MethodName := ⟨RX13, "newName", "()J"⟩
abbrev cX13_oneOf : ByteArray := prog_15_method_21_code
def yX13_oneOf : MethodName := ⟨RX13, "oneOf", "(I)I"⟩
abbrev cX13_factTold : ByteArray := prog_15_method_22_code
def yX13_factTold : MethodName := ⟨RX13, "factTold", "(I)V"⟩
abbrev cX13_personTold : ByteArray := prog_15_method_23_code
def yX13_personTold : MethodName := ⟨RX13, "personTold", "(I)V"⟩
abbrev cX13_beliefTold : ByteArray := prog_15_method_24_code
def yX13_beliefTold : MethodName := ⟨RX13, "beliefTold", "(Z)V"⟩
abbrev cX13_taughtTold : ByteArray := prog_15_method_25_code
def yX13_taughtTold : MethodName := ⟨RX13, "taughtTold", "()V"⟩
abbrev cX13_codesTold : ByteArray := prog_15_method_26_code
def yX13_codesTold : MethodName := ⟨RX13, "codesTold", "(II)V"⟩
abbrev cX13_statementTold : ByteArray := prog_15_method_27_code
def yX13_statementTold : MethodName := ⟨RX13, "statementTold", "()V"⟩
abbrev cX13_school : ByteArray := prog_15_method_28_code
def yX13_school : MethodName := ⟨RX13, "school", "()I"⟩
abbrev cX13_stands : ByteArray := prog_15_method_29_code
def yX13_stands : MethodName := ⟨RX13, "stands", "()V"⟩
abbrev cX13_fault : ByteArray := prog_15_method_30_code
def yX13_fault : MethodName := ⟨RX13, "fault", "(I)I"⟩
abbrev cX13_factMany : ByteArray := prog_15_method_31_code
def yX13_factMany : MethodName := ⟨RX13, "factMany", "()I"⟩
abbrev cX13_personMany : ByteArray := prog_15_method_32_code
def yX13_personMany : MethodName := ⟨RX13, "personMany", "()I"⟩
abbrev cX13_isFact : ByteArray := prog_15_method_33_code
def yX13_isFact : MethodName := ⟨RX13, "isFact", "(I)Z"⟩
abbrev cX13_isPerson : ByteArray := prog_15_method_34_code
def yX13_isPerson : MethodName := ⟨RX13, "isPerson", "(I)Z"⟩
abbrev cX13_masterOf : ByteArray := prog_15_method_35_code
def yX13_masterOf : MethodName := ⟨RX13, "masterOf", "(I)I"⟩
abbrev cX13_rightOf : ByteArray := prog_15_method_36_code
def yX13_rightOf : MethodName := ⟨RX13, "rightOf", "(I)I"⟩
abbrev cX13_wrongOf : ByteArray := prog_15_method_37_code
def yX13_wrongOf : MethodName := ⟨RX13, "wrongOf", "(I)I"⟩
abbrev cX13_leftOf : ByteArray := prog_15_method_38_code
def yX13_leftOf : MethodName := ⟨RX13, "leftOf", "(I)I"⟩
abbrev cX13_hasPassed : ByteArray := prog_15_method_39_code
def yX13_hasPassed : MethodName := ⟨RX13, "hasPassed", "(I)Z"⟩
abbrev cX13_isDoctor : ByteArray := prog_15_method_40_code
def yX13_isDoctor : MethodName := ⟨RX13, "isDoctor", "(I)Z"⟩
abbrev cX13_becomes : ByteArray := prog_15_method_41_code
def yX13_becomes : MethodName := ⟨RX13, "becomes", "(II)V"⟩
abbrev cX13_isOf : ByteArray := prog_15_method_42_code
def yX13_isOf : MethodName := ⟨RX13, "isOf", "(II)I"⟩
abbrev cX13_makes : ByteArray := prog_15_method_43_code
def yX13_makes : MethodName := ⟨RX13, "makes", "(III)V"⟩
abbrev cX13_pupilsOf : ByteArray := prog_15_method_44_code
def yX13_pupilsOf : MethodName := ⟨RX13, "pupilsOf", "(I)I"⟩
abbrev cX13_bits : ByteArray := prog_15_method_45_code
def yX13_bits : MethodName := ⟨RX13, "bits", "(I)I"⟩
abbrev cX13_rightMany : ByteArray := prog_15_method_46_code
def yX13_rightMany : MethodName := ⟨RX13, "rightMany", "(I)I"⟩
abbrev cX13_wrongMany : ByteArray := prog_15_method_47_code
def yX13_wrongMany : MethodName := ⟨RX13, "wrongMany", "(I)I"⟩
abbrev cX13_marksOf : ByteArray := prog_15_method_48_code
def yX13_marksOf : MethodName := ⟨RX13, "marksOf", "(I)I"⟩
abbrev cX13_holds : ByteArray := prog_15_method_49_code
def yX13_holds : MethodName := ⟨RX13, "holds", "(III)Z"⟩
abbrev cX13_taughtNext : ByteArray := prog_15_method_50_code
def yX13_taughtNext : MethodName := ⟨RX13, "taughtNext", "(I)I"⟩
abbrev cX13_allTaught : ByteArray := prog_15_method_51_code
def yX13_allTaught : MethodName := ⟨RX13, "allTaught", "(I)V"⟩
abbrev cX13_isKept : ByteArray := prog_15_method_52_code
def yX13_isKept : MethodName := ⟨RX13, "isKept", "(II)V"⟩
abbrev cX13_sitsFor : ByteArray := prog_15_method_53_code
def yX13_sitsFor : MethodName := ⟨RX13, "sitsFor", "(I)V"⟩
abbrev cX13_isMastersMaster : ByteArray := prog_15_method_54_code
def yX13_isMastersMaster : MethodName := ⟨RX13, "isMastersMaster", "(I)Z"⟩
abbrev cX13_yearGoes : ByteArray := prog_15_method_55_code
def yX13_yearGoes : MethodName := ⟨RX13, "yearGoes", "(I)V"⟩
abbrev cX13_yearsGo : ByteArray := prog_15_method_56_code
def yX13_yearsGo : MethodName := ⟨RX13, "yearsGo", "(I)V"⟩
abbrev cX13_putsAside : ByteArray := prog_15_method_57_code
def yX13_putsAside : MethodName := ⟨RX13, "putsAside", "()V"⟩
abbrev cX13_triesAnew : ByteArray := prog_15_method_58_code
def yX13_triesAnew : MethodName := ⟨RX13, "triesAnew", "()V"⟩
abbrev cX13_takesBack : ByteArray := prog_15_method_59_code
def yX13_takesBack : MethodName := ⟨RX13, "takesBack", "()V"⟩
abbrev cX13_isAhead : ByteArray := prog_15_method_60_code
def yX13_isAhead : MethodName := ⟨RX13, "isAhead", "(III)Z"⟩
abbrev cX13_thoseWho : ByteArray := prog_15_method_61_code
def yX13_thoseWho : MethodName := ⟨RX13, "thoseWho", "(I)I"⟩
abbrev cX13_beliefs : ByteArray := prog_15_method_62_code
def yX13_beliefs : MethodName := ⟨RX13, "beliefs", "(Z)I"⟩
abbrev cX13_has : ByteArray := prog_15_method_63_code
def yX13_has : MethodName := ⟨RX13, "has", "(I)I"⟩
abbrev cX13_letter : ByteArray := prog_15_method_64_code
def yX13_letter : MethodName := ⟨RX13, "letter", "(III)I"⟩
abbrev cX13_fact : ByteArray := prog_15_method_65_code
def yX13_fact : MethodName := ⟨RX13, "fact", "(II)I"⟩
abbrev cX13_person : ByteArray := prog_15_method_66_code
def yX13_person : MethodName := ⟨RX13, "person", "(II)I"⟩
abbrev cX13_marks : ByteArray := prog_15_method_67_code
def yX13_marks : MethodName := ⟨RX13, "marks", "(I)J"⟩
abbrev cX13_next : ByteArray := prog_15_method_68_code
def yX13_next : MethodName := ⟨RX13, "next", "(I)I"⟩
abbrev cX13_kept : ByteArray := prog_15_method_69_code
def yX13_kept : MethodName := ⟨RX13, "kept", "(II)I"⟩
abbrev cX13_later : ByteArray := prog_15_method_70_code
def yX13_later : MethodName := ⟨RX13, "later", "(II)I"⟩
abbrev cX13_doctor : ByteArray := prog_15_method_71_code
def yX13_doctor : MethodName := ⟨RX13, "doctor", "(I)I"⟩
abbrev cX13_lost : ByteArray := prog_15_method_72_code
def yX13_lost : MethodName := ⟨RX13, "lost", "(I)I"⟩
abbrev cX13_isTaughtBy : ByteArray := prog_15_method_73_code
def yX13_isTaughtBy : MethodName := ⟨RX13, "isTaughtBy", "(II)Z"⟩
abbrev cX13_yearsTill : ByteArray := prog_15_method_74_code
def yX13_yearsTill : MethodName := ⟨RX13, "yearsTill", "(I)I"⟩
abbrev cX13_master : ByteArray := prog_15_method_75_code
def yX13_master : MethodName := ⟨RX13, "master", "(II)I"⟩
abbrev cX13_isDoctorBehind : ByteArray := prog_15_method_76_code
def yX13_isDoctorBehind : MethodName := ⟨RX13, "isDoctorBehind", "(II)Z"⟩
abbrev cX13_gift : ByteArray := prog_15_method_77_code
def yX13_gift : MethodName := ⟨RX13, "gift", "(III)I"⟩
abbrev cX13_law : ByteArray := prog_15_method_78_code
def yX13_law : MethodName := ⟨RX13, "law", "(II)I"⟩
abbrev cX13_hear : ByteArray := prog_15_method_79_code
def yX13_hear : MethodName := ⟨RX13, "hear", "()I"⟩
abbrev cX13_isSource : ByteArray := prog_15_method_80_code
def yX13_isSource : MethodName := ⟨RX13, "isSource", "(III)Z"⟩
abbrev cX13_sources : ByteArray := prog_15_method_81_code
def yX13_sources : MethodName := ⟨RX13, "sources", "(II)I"⟩
abbrev cX13_probe : ByteArray := prog_15_method_82_code
def yX13_probe : MethodName := ⟨RX13, "probe", "(III)I"⟩
abbrev cX13_areParted : ByteArray := prog_15_method_83_code
def yX13_areParted : MethodName := ⟨RX13, "areParted", "(III)Z"⟩
abbrev cX13_part : ByteArray := prog_15_method_84_code
def yX13_part : MethodName := ⟨RX13, "part", "(II)I"⟩
abbrev cX13_keeps : ByteArray := prog_15_method_85_code
def yX13_keeps : MethodName := ⟨RX13, "keeps", "()V"⟩
abbrev cX13_undo : ByteArray := prog_15_method_86_code
def yX13_undo : MethodName := ⟨RX13, "undo", "()Z"⟩
abbrev cX13_teach : ByteArray := prog_15_method_87_code
def yX13_teach : MethodName := ⟨RX13, "teach", "(II)Z"⟩
abbrev cX13_tell : ByteArray := prog_15_method_88_code
def yX13_tell : MethodName := ⟨RX13, "tell", "(II)Z"⟩
abbrev cX13_years : ByteArray := prog_15_method_89_code
def yX13_years : MethodName := ⟨RX13, "years", "(I)I"⟩
abbrev cX13_seed : ByteArray := prog_15_method_90_code
def yX13_seed : MethodName := ⟨RX13, "seed", "(I)Z"⟩
abbrev cX13_drawOf : ByteArray := prog_15_method_91_code
def yX13_drawOf : MethodName := ⟨RX13, "drawOf", "(I)I"⟩
abbrev cX13_chance : ByteArray := prog_15_method_92_code
def yX13_chance : MethodName := ⟨RX13, "chance", "(I)I"⟩
abbrev cX13_qCode : ByteArray := prog_15_method_93_code
def yX13_qCode : MethodName := ⟨RX13, "qCode", "(I)V"⟩
abbrev cX13_qOpens : ByteArray := prog_15_method_94_code
def yX13_qOpens : MethodName := ⟨RX13, "qOpens", "(II)V"⟩
abbrev cX13_qIsOn : ByteArray := prog_15_method_95_code
def yX13_qIsOn : MethodName := ⟨RX13, "qIsOn", "(I)Z"⟩
abbrev cX13_qDrops : ByteArray := prog_15_method_96_code
def yX13_qDrops : MethodName := ⟨RX13, "qDrops", "()V"⟩
abbrev cX13_qIsBracket : ByteArray := prog_15_method_97_code
def yX13_qIsBracket : MethodName := ⟨RX13, "qIsBracket", "(I)Z"⟩
abbrev cX13_qBracket : ByteArray := prog_15_method_98_code
def yX13_qBracket : MethodName := ⟨RX13, "qBracket", "()I"⟩
abbrev cX13_qDropsToBracket : ByteArray := prog_15_method_99_code
def yX13_qDropsToBracket : MethodName := ⟨RX13, "qDropsToBracket", "()V"⟩
abbrev cX13_qWordHere : ByteArray := prog_15_method_100_code
def yX13_qWordHere : MethodName := ⟨RX13, "qWordHere", "()I"⟩
abbrev cX13_qWordOf : ByteArray := prog_15_method_101_code
def yX13_qWordOf : MethodName := ⟨RX13, "qWordOf", "(II)I"⟩
abbrev cX13_qAsksWord : ByteArray := prog_15_method_102_code
def yX13_qAsksWord : MethodName := ⟨RX13, "qAsksWord", "(I)V"⟩
abbrev cX13_qEndsPart : ByteArray := prog_15_method_103_code
def yX13_qEndsPart : MethodName := ⟨RX13, "qEndsPart", "()V"⟩
abbrev cX13_qPartTold : ByteArray := prog_15_method_104_code
def yX13_qPartTold : MethodName := ⟨RX13, "qPartTold", "()V"⟩
abbrev cX13_qGoesOn : ByteArray := prog_15_method_105_code
def yX13_qGoesOn : MethodName := ⟨RX13, "qGoesOn", "()Z"⟩
abbrev cX13_qSums : ByteArray := prog_15_method_106_code
def yX13_qSums : MethodName := ⟨RX13, "qSums", "()V"⟩
abbrev cX13_qFact : ByteArray := prog_15_method_107_code
def yX13_qFact : MethodName := ⟨RX13, "qFact", "()V"⟩
abbrev cX13_qHasSquare : ByteArray := prog_15_method_108_code
def yX13_qHasSquare : MethodName := ⟨RX13, "qHasSquare", "()Z"⟩
abbrev cX13_qDropsNots : ByteArray := prog_15_method_109_code
def yX13_qDropsNots : MethodName := ⟨RX13, "qDropsNots", "()V"⟩
abbrev cX13_qTest : ByteArray := prog_15_method_110_code
def yX13_qTest : MethodName := ⟨RX13, "qTest", "()V"⟩
abbrev cX13_qGoesOnTest : ByteArray := prog_15_method_111_code
def yX13_qGoesOnTest : MethodName := ⟨RX13, "qGoesOnTest", "()Z"⟩
abbrev cX13_qClip : ByteArray := prog_15_method_112_code
def yX13_qClip : MethodName := ⟨RX13, "qClip", "(J)J"⟩
abbrev cX13_qFloor : ByteArray := prog_15_method_113_code
def yX13_qFloor : MethodName := ⟨RX13, "qFloor", "(JJ)J"⟩
abbrev cX13_qPuts : ByteArray := prog_15_method_114_code
def yX13_qPuts : MethodName := ⟨RX13, "qPuts", "(J)V"⟩
abbrev cX13_qJoins : ByteArray := prog_15_method_115_code
def yX13_qJoins : MethodName := ⟨RX13, "qJoins", "(I)V"⟩
abbrev cX13_qPartOf : ByteArray := prog_15_method_116_code
def yX13_qPartOf : MethodName := ⟨RX13, "qPartOf", "(II)J"⟩
abbrev cX13_qOf : ByteArray := prog_15_method_117_code
def yX13_qOf : MethodName := ⟨RX13, "qOf", "(IJI)J"⟩
abbrev cX13_qTold : ByteArray := prog_15_method_118_code
def yX13_qTold : MethodName := ⟨RX13, "qTold", "(I)J"⟩
abbrev cX13_qKind : ByteArray := prog_15_method_119_code
def yX13_qKind : MethodName := ⟨RX13, "qKind", "()I"⟩
abbrev cX13_qTakes : ByteArray := prog_15_method_120_code
def yX13_qTakes : MethodName := ⟨RX13, "qTakes", "(IJI)V"⟩
abbrev cX13_ask : ByteArray := prog_15_method_121_code
def yX13_ask : MethodName := ⟨RX13, "ask", "(I)J"⟩
abbrev cX13_checked : ByteArray := prog_15_method_122_code
def yX13_checked : MethodName := ⟨RX13, "checked", "([II)I"⟩
abbrev cX13_writes : ByteArray := prog_15_method_123_code
def yX13_writes : MethodName := ⟨RX13, "writes", "(I)V"⟩
abbrev cX13_image : ByteArray := prog_15_method_124_code
def yX13_image : MethodName := ⟨RX13, "image", "()I"⟩
abbrev cX13_octet : ByteArray := prog_15_method_125_code
def yX13_octet : MethodName := ⟨RX13, "octet", "(I)I"⟩
abbrev cX13_isRing : ByteArray := prog_15_method_126_code
def yX13_isRing : MethodName := ⟨RX13, "isRing", "(I)Z"⟩
abbrev cX13_isPersonTold : ByteArray := prog_15_method_127_code
def yX13_isPersonTold : MethodName := ⟨RX13, "isPersonTold", "(I)Z"⟩
abbrev cX13_isImage : ByteArray := prog_15_method_128_code
def yX13_isImage : MethodName := ⟨RX13, "isImage", "(I)Z"⟩
abbrev cX13_on : ByteArray := prog_15_method_129_code
def yX13_on : MethodName := ⟨RX13, "on", "()Z"⟩
abbrev cX13_status : ByteArray := prog_15_method_130_code
def yX13_status : MethodName := ⟨RX13, "status", "(I)I"⟩
def RJx145de : String := "java/io/Serializable"
def TJx145de : u_T := fun k => match k with
  | _ => ("", "", "", false)
def tyJx145de : Nat → FieldType := fun k => match k with
  | _ => .int
abbrev wsJx145de0 : List Cond := u_ws RJx145de TJx145de 0
theorem nmJx145de : ∀ a, a < 0 → ∀ b, b < 0 → a ≠ b → (TJx145de a).2.1 ≠ (TJx145de b).2.1 := by decide +kernel
theorem tyJx145de_ok : ∀ k, k < 0 → parseFieldDescriptor (TJx145de k).2.2.1 = some (tyJx145de k) := by decide +kernel
def RJxb160c : String := "java/lang/Comparable"
def TJxb160c : u_T := fun k => match k with
  | _ => ("", "", "", false)
def tyJxb160c : Nat → FieldType := fun k => match k with
  | _ => .int
abbrev wsJxb160c0 : List Cond := u_ws RJxb160c TJxb160c 0
theorem nmJxb160c : ∀ a, a < 0 → ∀ b, b < 0 → a ≠ b → (TJxb160c a).2.1 ≠ (TJxb160c b).2.1 := by decide +kernel
theorem tyJxb160c_ok : ∀ k, k < 0 → parseFieldDescriptor (TJxb160c k).2.2.1 = some (tyJxb160c k) := by decide +kernel
def RJx29ce0 : String := "java/lang/Enum"
def TJx29ce0 : u_T := fun k => match k with
  | _ => ("", "", "", false)
def tyJx29ce0 : Nat → FieldType := fun k => match k with
  | _ => .int
abbrev wsJx29ce00 : List Cond := u_ws RJx29ce0 TJx29ce0 0
theorem nmJx29ce0 : ∀ a, a < 0 → ∀ b, b < 0 → a ≠ b → (TJx29ce0 a).2.1 ≠ (TJx29ce0 b).2.1 := by decide +kernel
theorem tyJx29ce0_ok : ∀ k, k < 0 → parseFieldDescriptor (TJx29ce0 k).2.2.1 = some (tyJx29ce0 k) := by decide +kernel
abbrev cJx29ce0_ordinal_8abf5 : ByteArray := prog_16_method_2_code
def yJx29ce0_ordinal_8abf5 : MethodName := ⟨RJx29ce0, "ordinal", "()I"⟩
def RJ6 : String := "java/lang/Integer"
def TJ6 : u_T := fun k => match k with
  | _ => ("", "", "", false)
def tyJ6 : Nat → FieldType := fun k => match k with
  | _ => .int
abbrev wsJ60 : List Cond := u_ws RJ6 TJ6 0
theorem nmJ6 : ∀ a, a < 0 → ∀ b, b < 0 → a ≠ b → (TJ6 a).2.1 ≠ (TJ6 b).2.1 := by decide +kernel
theorem tyJ6_ok : ∀ k, k < 0 → parseFieldDescriptor (TJ6 k).2.2.1 = some (tyJ6 k) := by decide +kernel
abbrev cJ6_bitCount_0f7a4 : ByteArray := prog_17_method_49_code
def yJ6_bitCount_0f7a4 : MethodName := ⟨RJ6, "bitCount", "(I)I"⟩
def RJ9 : String := "java/lang/Math"
def TJ9 : u_T := fun k => match k with
  | _ => ("", "", "", false)
def tyJ9 : Nat → FieldType := fun k => match k with
  | _ => .int
abbrev wsJ90 : List Cond := u_ws RJ9 TJ9 0
theorem nmJ9 : ∀ a, a < 0 → ∀ b, b < 0 → a ≠ b → (TJ9 a).2.1 ≠ (TJ9 b).2.1 := by decide +kernel
theorem tyJ9_ok : ∀ k, k < 0 → parseFieldDescriptor (TJ9 k).2.2.1 = some (tyJ9 k) := by decide +kernel
abbrev cJ9_floorDiv_7cf53 : ByteArray := prog_18_method_47_code
def yJ9_floorDiv_7cf53 : MethodName := ⟨RJ9, "floorDiv", "(II)I"⟩
abbrev cJ9_max_7cf53 : ByteArray := prog_18_method_65_code
def yJ9_max_7cf53 : MethodName := ⟨RJ9, "max", "(II)I"⟩
abbrev cJ9_max_f86c9 : ByteArray := prog_18_method_66_code
def yJ9_max_f86c9 : MethodName := ⟨RJ9, "max", "(JJ)J"⟩
abbrev cJ9_min_7cf53 : ByteArray := prog_18_method_69_code
def yJ9_min_7cf53 : MethodName := ⟨RJ9, "min", "(II)I"⟩
abbrev cJ9_min_f86c9 : ByteArray := prog_18_method_70_code
def yJ9_min_f86c9 : MethodName := ⟨RJ9, "min", "(JJ)J"⟩
def RJ10 : String := "java/lang/System"
def TJ10 : u_T := fun k => match k with
  | _ => ("", "", "", false)
def tyJ10 : Nat → FieldType := fun k => match k with
  | _ => .int
abbrev wsJ100 : List Cond := u_ws RJ10 TJ10 0
theorem nmJ10 : ∀ a, a < 0 → ∀ b, b < 0 → a ≠ b → (TJ10 a).2.1 ≠ (TJ10 b).2.1 := by decide +kernel
theorem tyJ10_ok : ∀ k, k < 0 → parseFieldDescriptor (TJ10 k).2.2.1 = some (tyJ10 k) := by decide +kernel
def RJxfd54e : String := "java/lang/constant/Constable"
def TJxfd54e : u_T := fun k => match k with
  | _ => ("", "", "", false)
def tyJxfd54e : Nat → FieldType := fun k => match k with
  | _ => .int
abbrev wsJxfd54e0 : List Cond := u_ws RJxfd54e TJxfd54e 0
theorem nmJxfd54e : ∀ a, a < 0 → ∀ b, b < 0 → a ≠ b → (TJxfd54e a).2.1 ≠ (TJxfd54e b).2.1 := by decide +kernel
theorem tyJxfd54e_ok : ∀ k, k < 0 → parseFieldDescriptor (TJxfd54e k).2.2.1 = some (tyJxfd54e k) := by decide +kernel
def RJ7 : String := "java/util/Arrays"
def TJ7 : u_T := fun k => match k with
  | _ => ("", "", "", false)
def tyJ7 : Nat → FieldType := fun k => match k with
  | _ => .int
abbrev wsJ70 : List Cond := u_ws RJ7 TJ7 0
theorem nmJ7 : ∀ a, a < 0 → ∀ b, b < 0 → a ≠ b → (TJ7 a).2.1 ≠ (TJ7 b).2.1 := by decide +kernel
theorem tyJ7_ok : ∀ k, k < 0 → parseFieldDescriptor (TJ7 k).2.2.1 = some (tyJ7 k) := by decide +kernel
abbrev cJ7_fill_53178 : ByteArray := prog_20_method_103_code
def yJ7_fill_53178 : MethodName := ⟨RJ7, "fill", "([II)V"⟩
def RL : String := "PupilsPupilLaw"
abbrev cL_law : ByteArray := code
def yL_law : MethodName := ⟨RL, "law", "([I)Z"⟩
abbrev mX12_init : MethodName × ByteArray × Nat × Option FieldType := (yX12_init, cX12_init, 2, none)
abbrev mX10_init : MethodName × ByteArray × Nat × Option FieldType := (yX10_init, cX10_init, 1, none)
abbrev mX7_init : MethodName × ByteArray × Nat × Option FieldType := (yX7_init, cX7_init, 1, none)
abbrev mX3_init : MethodName × ByteArray × Nat × Option FieldType := (yX3_init, cX3_init, 1, none)
abbrev mX9_init : MethodName × ByteArray × Nat × Option FieldType := (yX9_init, cX9_init, 1, none)
abbrev mJ7_fill_53178 : MethodName × ByteArray × Nat × Option FieldType := (yJ7_fill_53178, cJ7_fill_53178, 4, none)
abbrev mX1_init : MethodName × ByteArray × Nat × Option FieldType := (yX1_init, cX1_init, 2, none)
abbrev mX2_init : MethodName × ByteArray × Nat × Option FieldType := (yX2_init, cX2_init, 4, none)
abbrev mX6_init : MethodName × ByteArray × Nat × Option FieldType := (yX6_init, cX6_init, 4, none)
abbrev mX8_init : MethodName × ByteArray × Nat × Option FieldType := (yX8_init, cX8_init, 2, none)
abbrev mX4_init : MethodName × ByteArray × Nat × Option FieldType := (yX4_init, cX4_init, 3, none)
abbrev mX5_init : MethodName × ByteArray × Nat × Option FieldType := (yX5_init, cX5_init, 4, none)
abbrev mX12_feed : MethodName × ByteArray × Nat × Option FieldType := (yX12_feed, cX12_feed, 6, (some .int))
abbrev mX12_refuse : MethodName × ByteArray × Nat × Option FieldType := (yX12_refuse, cX12_refuse, 2, (some .int))
abbrev mX10_append : MethodName × ByteArray × Nat × Option FieldType := (yX10_append, cX10_append, 3, none)
abbrev mX12_end : MethodName × ByteArray × Nat × Option FieldType := (yX12_end, cX12_end, 2, (some .boolean))
abbrev mX12_deny : MethodName × ByteArray × Nat × Option FieldType := (yX12_deny, cX12_deny, 2, (some .boolean))
abbrev mX12_school : MethodName × ByteArray × Nat × Option FieldType := (yX12_school, cX12_school, 2, (some .int))
abbrev mX8_read : MethodName × ByteArray × Nat × Option FieldType := (yX8_read, cX8_read, 3, (some .int))
abbrev mX10_open : MethodName × ByteArray × Nat × Option FieldType := (yX10_open, cX10_open, 1, none)
abbrev mX10_advance : MethodName × ByteArray × Nat × Option FieldType := (yX10_advance, cX10_advance, 4, none)
abbrev mX7_clear : MethodName × ByteArray × Nat × Option FieldType := (yX7_clear, cX7_clear, 1, none)
abbrev mX3_clear : MethodName × ByteArray × Nat × Option FieldType := (yX3_clear, cX3_clear, 1, none)
abbrev mX9_clear : MethodName × ByteArray × Nat × Option FieldType := (yX9_clear, cX9_clear, 1, none)
abbrev mX8_readStatement : MethodName × ByteArray × Nat × Option FieldType := (yX8_readStatement, cX8_readStatement, 2, (some .boolean))
abbrev mX10_knownWord : MethodName × ByteArray × Nat × Option FieldType := (yX10_knownWord, cX10_knownWord, 1, (some (.object "PupilsPupil$Word")))
abbrev mX11_of : MethodName × ByteArray × Nat × Option FieldType := (yX11_of, cX11_of, 2, (some (.object "PupilsPupil$Word")))
abbrev mX10_failHere : MethodName × ByteArray × Nat × Option FieldType := (yX10_failHere, cX10_failHere, 1, (some .boolean))
abbrev mJx29ce0_ordinal_8abf5 : MethodName × ByteArray × Nat × Option FieldType := (yJx29ce0_ordinal_8abf5, cJx29ce0_ordinal_8abf5, 1, (some .int))
abbrev mX8_readFact : MethodName × ByteArray × Nat × Option FieldType := (yX8_readFact, cX8_readFact, 4, (some .boolean))
abbrev mX10_fail : MethodName × ByteArray × Nat × Option FieldType := (yX10_fail, cX10_fail, 3, (some .boolean))
abbrev mX8_takeNewName : MethodName × ByteArray × Nat × Option FieldType := (yX8_takeNewName, cX8_takeNewName, 3, (some .int))
abbrev mX10_takeName : MethodName × ByteArray × Nat × Option FieldType := (yX10_takeName, cX10_takeName, 3, (some .int))
abbrev mX7_placeOf : MethodName × ByteArray × Nat × Option FieldType := (yX7_placeOf, cX7_placeOf, 4, (some .int))
abbrev mX10_expectWord : MethodName × ByteArray × Nat × Option FieldType := (yX10_expectWord, cX10_expectWord, 2, (some .boolean))
abbrev mX10_isWord : MethodName × ByteArray × Nat × Option FieldType := (yX10_isWord, cX10_isWord, 2, (some .boolean))
abbrev mX10_takeNumber : MethodName × ByteArray × Nat × Option FieldType := (yX10_takeNumber, cX10_takeNumber, 4, (some .int))
abbrev mX8_readPerson : MethodName × ByteArray × Nat × Option FieldType := (yX8_readPerson, cX8_readPerson, 4, (some .boolean))
abbrev mX8_readBelief : MethodName × ByteArray × Nat × Option FieldType := (yX8_readBelief, cX8_readBelief, 5, (some .boolean))
abbrev mX8_takeKnown : MethodName × ByteArray × Nat × Option FieldType := (yX8_takeKnown, cX8_takeKnown, 6, (some .int))
abbrev mX9_beliefOf : MethodName × ByteArray × Nat × Option FieldType := (yX9_beliefOf, cX9_beliefOf, 3, (some .int))
abbrev mX9_isPlace : MethodName × ByteArray × Nat × Option FieldType := (yX9_isPlace, cX9_isPlace, 1, (some .boolean))
abbrev mX12_hasBit : MethodName × ByteArray × Nat × Option FieldType := (yX12_hasBit, cX12_hasBit, 2, (some .boolean))
abbrev mX9_believe : MethodName × ByteArray × Nat × Option FieldType := (yX9_believe, cX9_believe, 4, none)
abbrev mX8_readTaught : MethodName × ByteArray × Nat × Option FieldType := (yX8_readTaught, cX8_readTaught, 4, (some .boolean))
abbrev mX9_masterOf : MethodName × ByteArray × Nat × Option FieldType := (yX9_masterOf, cX9_masterOf, 2, (some .int))
abbrev mX9_isAbove : MethodName × ByteArray × Nat × Option FieldType := (yX9_isAbove, cX9_isAbove, 5, (some .boolean))
abbrev mX9_setMaster : MethodName × ByteArray × Nat × Option FieldType := (yX9_setMaster, cX9_setMaster, 3, none)
abbrev mX8_readLaw : MethodName × ByteArray × Nat × Option FieldType := (yX8_readLaw, cX8_readLaw, 4, (some .boolean))
abbrev mX3_isTold : MethodName × ByteArray × Nat × Option FieldType := (yX3_isTold, cX3_isTold, 2, (some .boolean))
abbrev mX3_begin : MethodName × ByteArray × Nat × Option FieldType := (yX3_begin, cX3_begin, 2, none)
abbrev mX4_readTest : MethodName × ByteArray × Nat × Option FieldType := (yX4_readTest, cX4_readTest, 4, (some .boolean))
abbrev mX4_readBoth : MethodName × ByteArray × Nat × Option FieldType := (yX4_readBoth, cX4_readBoth, 4, (some .boolean))
abbrev mX4_readClaim : MethodName × ByteArray × Nat × Option FieldType := (yX4_readClaim, cX4_readClaim, 5, (some .boolean))
abbrev mX4_opens : MethodName × ByteArray × Nat × Option FieldType := (yX4_opens, cX4_opens, 2, (some .boolean))
abbrev mX3_add : MethodName × ByteArray × Nat × Option FieldType := (yX3_add, cX3_add, 2, none)
abbrev mX10_expectSign : MethodName × ByteArray × Nat × Option FieldType := (yX10_expectSign, cX10_expectSign, 2, (some .boolean))
abbrev mX4_readSum : MethodName × ByteArray × Nat × Option FieldType := (yX4_readSum, cX4_readSum, 5, (some .boolean))
abbrev mX4_readProduct : MethodName × ByteArray × Nat × Option FieldType := (yX4_readProduct, cX4_readProduct, 5, (some .boolean))
abbrev mX4_readPart : MethodName × ByteArray × Nat × Option FieldType := (yX4_readPart, cX4_readPart, 4, (some .boolean))
abbrev mX4_readPair : MethodName × ByteArray × Nat × Option FieldType := (yX4_readPair, cX4_readPair, 4, (some .boolean))
abbrev mX3_addSlot : MethodName × ByteArray × Nat × Option FieldType := (yX3_addSlot, cX3_addSlot, 2, none)
abbrev mX3_finish : MethodName × ByteArray × Nat × Option FieldType := (yX3_finish, cX3_finish, 2, none)
abbrev mX8_readEnough : MethodName × ByteArray × Nat × Option FieldType := (yX8_readEnough, cX8_readEnough, 1, (some .boolean))
abbrev mX8_readTries : MethodName × ByteArray × Nat × Option FieldType := (yX8_readTries, cX8_readTries, 1, (some .boolean))
abbrev mX8_readIllness : MethodName × ByteArray × Nat × Option FieldType := (yX8_readIllness, cX8_readIllness, 1, (some .boolean))
abbrev mX7_copyFrom : MethodName × ByteArray × Nat × Option FieldType := (yX7_copyFrom, cX7_copyFrom, 2, none)
abbrev mX3_copyFrom : MethodName × ByteArray × Nat × Option FieldType := (yX3_copyFrom, cX3_copyFrom, 2, none)
abbrev mX9_copyFrom : MethodName × ByteArray × Nat × Option FieldType := (yX9_copyFrom, cX9_copyFrom, 2, none)
abbrev mX12_forgetPast : MethodName × ByteArray × Nat × Option FieldType := (yX12_forgetPast, cX12_forgetPast, 1, none)
abbrev mX12_fault : MethodName × ByteArray × Nat × Option FieldType := (yX12_fault, cX12_fault, 2, (some .int))
abbrev mX12_has : MethodName × ByteArray × Nat × Option FieldType := (yX12_has, cX12_has, 2, (some .int))
abbrev mJ6_bitCount_0f7a4 : MethodName × ByteArray × Nat × Option FieldType := (yJ6_bitCount_0f7a4, cJ6_bitCount_0f7a4, 1, (some .int))
abbrev mX12_countBits : MethodName × ByteArray × Nat × Option FieldType := (yX12_countBits, cX12_countBits, 3, (some .int))
abbrev mX12_letter : MethodName × ByteArray × Nat × Option FieldType := (yX12_letter, cX12_letter, 4, (some .int))
abbrev mX12_isFact : MethodName × ByteArray × Nat × Option FieldType := (yX12_isFact, cX12_isFact, 2, (some .boolean))
abbrev mX12_isPerson : MethodName × ByteArray × Nat × Option FieldType := (yX12_isPerson, cX12_isPerson, 2, (some .boolean))
abbrev mX12_fact : MethodName × ByteArray × Nat × Option FieldType := (yX12_fact, cX12_fact, 3, (some .int))
abbrev mX12_whoHas : MethodName × ByteArray × Nat × Option FieldType := (yX12_whoHas, cX12_whoHas, 4, (some .int))
abbrev mX12_person : MethodName × ByteArray × Nat × Option FieldType := (yX12_person, cX12_person, 3, (some .int))
abbrev mX9_pupilsOf : MethodName × ByteArray × Nat × Option FieldType := (yX9_pupilsOf, cX9_pupilsOf, 4, (some .int))
abbrev mX12_marks : MethodName × ByteArray × Nat × Option FieldType := (yX12_marks, cX12_marks, 2, (some .long))
abbrev mX7_marksIn : MethodName × ByteArray × Nat × Option FieldType := (yX7_marksIn, cX7_marksIn, 6, (some .int))
abbrev mX12_next : MethodName × ByteArray × Nat × Option FieldType := (yX12_next, cX12_next, 2, (some .int))
abbrev mX1_lessonOf : MethodName × ByteArray × Nat × Option FieldType := (yX1_lessonOf, cX1_lessonOf, 7, (some .int))
abbrev mX9_lessonsFor : MethodName × ByteArray × Nat × Option FieldType := (yX9_lessonsFor, cX9_lessonsFor, 4, (some .int))
abbrev mX1_fillLesson : MethodName × ByteArray × Nat × Option FieldType := (yX1_fillLesson, cX1_fillLesson, 4, none)
abbrev mX1_fillPerson : MethodName × ByteArray × Nat × Option FieldType := (yX1_fillPerson, cX1_fillPerson, 3, none)
abbrev mX3_value : MethodName × ByteArray × Nat × Option FieldType := (yX3_value, cX3_value, 6, (some .int))
abbrev mJ9_max_7cf53 : MethodName × ByteArray × Nat × Option FieldType := (yJ9_max_7cf53, cJ9_max_7cf53, 2, (some .int))
abbrev mX3_joined : MethodName × ByteArray × Nat × Option FieldType := (yX3_joined, cX3_joined, 3, (some .int))
abbrev mX3_limited : MethodName × ByteArray × Nat × Option FieldType := (yX3_limited, cX3_limited, 2, (some .int))
abbrev mJ9_floorDiv_7cf53 : MethodName × ByteArray × Nat × Option FieldType := (yJ9_floorDiv_7cf53, cJ9_floorDiv_7cf53, 3, (some .int))
abbrev mX12_kept : MethodName × ByteArray × Nat × Option FieldType := (yX12_kept, cX12_kept, 3, (some .int))
abbrev mX12_later : MethodName × ByteArray × Nat × Option FieldType := (yX12_later, cX12_later, 4, (some .int))
abbrev mX2_reaches : MethodName × ByteArray × Nat × Option FieldType := (yX2_reaches, cX2_reaches, 3, (some .boolean))
abbrev mX2_after : MethodName × ByteArray × Nat × Option FieldType := (yX2_after, cX2_after, 3, (some (.object "PupilsPupil$State")))
abbrev mX1_runYear : MethodName × ByteArray × Nat × Option FieldType := (yX1_runYear, cX1_runYear, 4, (some .int))
abbrev mX1_beliefTaken : MethodName × ByteArray × Nat × Option FieldType := (yX1_beliefTaken, cX1_beliefTaken, 5, (some .int))
abbrev mX1_examine : MethodName × ByteArray × Nat × Option FieldType := (yX1_examine, cX1_examine, 6, (some .int))
abbrev mX9_keep : MethodName × ByteArray × Nat × Option FieldType := (yX9_keep, cX9_keep, 3, none)
abbrev mX1_nameDoctors : MethodName × ByteArray × Nat × Option FieldType := (yX1_nameDoctors, cX1_nameDoctors, 5, none)
abbrev mX12_doctor : MethodName × ByteArray × Nat × Option FieldType := (yX12_doctor, cX12_doctor, 2, (some .int))
abbrev mX2_yearsToDoctor : MethodName × ByteArray × Nat × Option FieldType := (yX2_yearsToDoctor, cX2_yearsToDoctor, 2, (some .int))
abbrev mX2_horizon : MethodName × ByteArray × Nat × Option FieldType := (yX2_horizon, cX2_horizon, 1, (some .int))
abbrev mJ9_min_7cf53 : MethodName × ByteArray × Nat × Option FieldType := (yJ9_min_7cf53, cJ9_min_7cf53, 2, (some .int))
abbrev mX2_runToDoctor : MethodName × ByteArray × Nat × Option FieldType := (yX2_runToDoctor, cX2_runToDoctor, 4, (some .int))
abbrev mX12_lost : MethodName × ByteArray × Nat × Option FieldType := (yX12_lost, cX12_lost, 2, (some .int))
abbrev mX2_yearsToLoss : MethodName × ByteArray × Nat × Option FieldType := (yX2_yearsToLoss, cX2_yearsToLoss, 5, (some .int))
abbrev mX12_master : MethodName × ByteArray × Nat × Option FieldType := (yX12_master, cX12_master, 3, (some .int))
abbrev mX12_isPairPart : MethodName × ByteArray × Nat × Option FieldType := (yX12_isPairPart, cX12_isPairPart, 1, (some .boolean))
abbrev mX2_findMaster : MethodName × ByteArray × Nat × Option FieldType := (yX2_findMaster, cX2_findMaster, 5, none)
abbrev mX2_yearsToPass : MethodName × ByteArray × Nat × Option FieldType := (yX2_yearsToPass, cX2_yearsToPass, 5, (some .int))
abbrev mX12_gift : MethodName × ByteArray × Nat × Option FieldType := (yX12_gift, cX12_gift, 4, (some .int))
abbrev mX2_findGift : MethodName × ByteArray × Nat × Option FieldType := (yX2_findGift, cX2_findGift, 6, none)
abbrev mX12_law : MethodName × ByteArray × Nat × Option FieldType := (yX12_law, cX12_law, 3, (some .int))
abbrev mX2_findTries : MethodName × ByteArray × Nat × Option FieldType := (yX2_findTries, cX2_findTries, 4, none)
abbrev mX2_doctorsWith : MethodName × ByteArray × Nat × Option FieldType := (yX2_doctorsWith, cX2_doctorsWith, 4, (some .int))
abbrev mX12_hear : MethodName × ByteArray × Nat × Option FieldType := (yX12_hear, cX12_hear, 2, (some .int))
abbrev mX6_take : MethodName × ByteArray × Nat × Option FieldType := (yX6_take, cX6_take, 4, (some .boolean))
abbrev mX10_byteAt : MethodName × ByteArray × Nat × Option FieldType := (yX10_byteAt, cX10_byteAt, 2, (some .int))
abbrev mX12_sources : MethodName × ByteArray × Nat × Option FieldType := (yX12_sources, cX12_sources, 3, (some .int))
abbrev mX6_findSources : MethodName × ByteArray × Nat × Option FieldType := (yX6_findSources, cX6_findSources, 6, (some .int))
abbrev mX6_supposeSource : MethodName × ByteArray × Nat × Option FieldType := (yX6_supposeSource, cX6_supposeSource, 6, none)
abbrev mX6_agrees : MethodName × ByteArray × Nat × Option FieldType := (yX6_agrees, cX6_agrees, 3, (some .boolean))
abbrev mX6_noteHolders : MethodName × ByteArray × Nat × Option FieldType := (yX6_noteHolders, cX6_noteHolders, 5, none)
abbrev mX12_probe : MethodName × ByteArray × Nat × Option FieldType := (yX12_probe, cX12_probe, 4, (some .int))
abbrev mX6_findProbe : MethodName × ByteArray × Nat × Option FieldType := (yX6_findProbe, cX6_findProbe, 4, none)
abbrev mX6_mostLeft : MethodName × ByteArray × Nat × Option FieldType := (yX6_mostLeft, cX6_mostLeft, 7, (some .int))
abbrev mX12_part : MethodName × ByteArray × Nat × Option FieldType := (yX12_part, cX12_part, 7, (some .int))
abbrev mX12_isParted : MethodName × ByteArray × Nat × Option FieldType := (yX12_isParted, cX12_isParted, 8, (some .boolean))
abbrev mX12_teach : MethodName × ByteArray × Nat × Option FieldType := (yX12_teach, cX12_teach, 3, (some .boolean))
abbrev mX12_remember : MethodName × ByteArray × Nat × Option FieldType := (yX12_remember, cX12_remember, 1, none)
abbrev mX12_tell : MethodName × ByteArray × Nat × Option FieldType := (yX12_tell, cX12_tell, 3, (some .boolean))
abbrev mX12_years : MethodName × ByteArray × Nat × Option FieldType := (yX12_years, cX12_years, 4, (some .int))
abbrev mX12_canRun : MethodName × ByteArray × Nat × Option FieldType := (yX12_canRun, cX12_canRun, 2, (some .boolean))
abbrev mX12_chance : MethodName × ByteArray × Nat × Option FieldType := (yX12_chance, cX12_chance, 5, (some .int))
abbrev mX12_drawIll : MethodName × ByteArray × Nat × Option FieldType := (yX12_drawIll, cX12_drawIll, 3, (some .int))
abbrev mX12_undo : MethodName × ByteArray × Nat × Option FieldType := (yX12_undo, cX12_undo, 1, (some .boolean))
abbrev mX12_seed : MethodName × ByteArray × Nat × Option FieldType := (yX12_seed, cX12_seed, 2, (some .boolean))
abbrev mX12_ask : MethodName × ByteArray × Nat × Option FieldType := (yX12_ask, cX12_ask, 3, (some .long))
abbrev mX5_read : MethodName × ByteArray × Nat × Option FieldType := (yX5_read, cX5_read, 4, (some .boolean))
abbrev mX5_answerFor : MethodName × ByteArray × Nat × Option FieldType := (yX5_answerFor, cX5_answerFor, 6, (some .long))
abbrev mX5_fillSlots : MethodName × ByteArray × Nat × Option FieldType := (yX5_fillSlots, cX5_fillSlots, 5, none)
abbrev mJ9_max_f86c9 : MethodName × ByteArray × Nat × Option FieldType := (yJ9_max_f86c9, cJ9_max_f86c9, 4, (some .long))
abbrev mJ9_min_f86c9 : MethodName × ByteArray × Nat × Option FieldType := (yJ9_min_f86c9, cJ9_min_f86c9, 4, (some .long))
abbrev mX12_image : MethodName × ByteArray × Nat × Option FieldType := (yX12_image, cX12_image, 1, (some .int))
abbrev mX9_writeImage : MethodName × ByteArray × Nat × Option FieldType := (yX9_writeImage, cX9_writeImage, 6, (some .int))
abbrev mX12_octet : MethodName × ByteArray × Nat × Option FieldType := (yX12_octet, cX12_octet, 2, (some .int))
abbrev mX12_on : MethodName × ByteArray × Nat × Option FieldType := (yX12_on, cX12_on, 2, (some .boolean))
abbrev mX9_readImage : MethodName × ByteArray × Nat × Option FieldType := (yX9_readImage, cX9_readImage, 5, (some .boolean))
abbrev mX9_isSummed : MethodName × ByteArray × Nat × Option FieldType := (yX9_isSummed, cX9_isSummed, 4, (some .boolean))
abbrev mX9_readRow : MethodName × ByteArray × Nat × Option FieldType := (yX9_readRow, cX9_readRow, 6, (some .boolean))
abbrev mX12_status : MethodName × ByteArray × Nat × Option FieldType := (yX12_status, cX12_status, 2, (some .int))
abbrev mX13_init : MethodName × ByteArray × Nat × Option FieldType := (yX13_init, cX13_init, 1, none)
abbrev mX13_feed : MethodName × ByteArray × Nat × Option FieldType := (yX13_feed, cX13_feed, 8, (some .int))
abbrev mX13_end : MethodName × ByteArray × Nat × Option FieldType := (yX13_end, cX13_end, 2, (some .boolean))
abbrev mX13_school : MethodName × ByteArray × Nat × Option FieldType := (yX13_school, cX13_school, 2, (some .int))
abbrev mX13_look : MethodName × ByteArray × Nat × Option FieldType := (yX13_look, cX13_look, 1, (some .int))
abbrev mX13_statementTold : MethodName × ByteArray × Nat × Option FieldType := (yX13_statementTold, cX13_statementTold, 2, none)
abbrev mX13_fail : MethodName × ByteArray × Nat × Option FieldType := (yX13_fail, cX13_fail, 3, none)
abbrev mX13_takes : MethodName × ByteArray × Nat × Option FieldType := (yX13_takes, cX13_takes, 2, (some .boolean))
abbrev mX13_isHere : MethodName × ByteArray × Nat × Option FieldType := (yX13_isHere, cX13_isHere, 4, (some .boolean))
abbrev mX13_isLetter : MethodName × ByteArray × Nat × Option FieldType := (yX13_isLetter, cX13_isLetter, 1, (some .boolean))
abbrev mX13_factTold : MethodName × ByteArray × Nat × Option FieldType := (yX13_factTold, cX13_factTold, 5, none)
abbrev mX13_isFull : MethodName × ByteArray × Nat × Option FieldType := (yX13_isFull, cX13_isFull, 4, (some .boolean))
abbrev mX13_newName : MethodName × ByteArray × Nat × Option FieldType := (yX13_newName, cX13_newName, 4, (some .long))
abbrev mX13_name : MethodName × ByteArray × Nat × Option FieldType := (yX13_name, cX13_name, 3, (some .long))
abbrev mX13_isOwnHere : MethodName × ByteArray × Nat × Option FieldType := (yX13_isOwnHere, cX13_isOwnHere, 2, (some .boolean))
abbrev mX13_nameOf : MethodName × ByteArray × Nat × Option FieldType := (yX13_nameOf, cX13_nameOf, 5, (some .int))
abbrev mX13_asks : MethodName × ByteArray × Nat × Option FieldType := (yX13_asks, cX13_asks, 2, none)
abbrev mX13_number : MethodName × ByteArray × Nat × Option FieldType := (yX13_number, cX13_number, 5, (some .int))
abbrev mX13_isDigit : MethodName × ByteArray × Nat × Option FieldType := (yX13_isDigit, cX13_isDigit, 1, (some .boolean))
abbrev mX13_isIn : MethodName × ByteArray × Nat × Option FieldType := (yX13_isIn, cX13_isIn, 6, (some .boolean))
abbrev mX13_personTold : MethodName × ByteArray × Nat × Option FieldType := (yX13_personTold, cX13_personTold, 5, none)
abbrev mX13_beliefTold : MethodName × ByteArray × Nat × Option FieldType := (yX13_beliefTold, cX13_beliefTold, 4, none)
abbrev mX13_oneOf : MethodName × ByteArray × Nat × Option FieldType := (yX13_oneOf, cX13_oneOf, 5, (some .int))
abbrev mX13_taughtTold : MethodName × ByteArray × Nat × Option FieldType := (yX13_taughtTold, cX13_taughtTold, 4, none)
abbrev mX13_codesTold : MethodName × ByteArray × Nat × Option FieldType := (yX13_codesTold, cX13_codesTold, 4, none)
abbrev mX13_qTest : MethodName × ByteArray × Nat × Option FieldType := (yX13_qTest, cX13_qTest, 3, none)
abbrev mX13_qOpens : MethodName × ByteArray × Nat × Option FieldType := (yX13_qOpens, cX13_qOpens, 3, none)
abbrev mX13_qFact : MethodName × ByteArray × Nat × Option FieldType := (yX13_qFact, cX13_qFact, 2, none)
abbrev mX13_qCode : MethodName × ByteArray × Nat × Option FieldType := (yX13_qCode, cX13_qCode, 2, none)
abbrev mX13_qSums : MethodName × ByteArray × Nat × Option FieldType := (yX13_qSums, cX13_qSums, 3, none)
abbrev mX13_qPartTold : MethodName × ByteArray × Nat × Option FieldType := (yX13_qPartTold, cX13_qPartTold, 6, none)
abbrev mX13_qWordOf : MethodName × ByteArray × Nat × Option FieldType := (yX13_qWordOf, cX13_qWordOf, 4, (some .int))
abbrev mX13_qWordHere : MethodName × ByteArray × Nat × Option FieldType := (yX13_qWordHere, cX13_qWordHere, 1, (some .int))
abbrev mX13_isAllowed : MethodName × ByteArray × Nat × Option FieldType := (yX13_isAllowed, cX13_isAllowed, 2, (some .boolean))
abbrev mX13_asksSign : MethodName × ByteArray × Nat × Option FieldType := (yX13_asksSign, cX13_asksSign, 2, none)
abbrev mX13_takesSign : MethodName × ByteArray × Nat × Option FieldType := (yX13_takesSign, cX13_takesSign, 2, (some .boolean))
abbrev mX13_qAsksWord : MethodName × ByteArray × Nat × Option FieldType := (yX13_qAsksWord, cX13_qAsksWord, 2, none)
abbrev mX13_qEndsPart : MethodName × ByteArray × Nat × Option FieldType := (yX13_qEndsPart, cX13_qEndsPart, 1, none)
abbrev mX13_qDrops : MethodName × ByteArray × Nat × Option FieldType := (yX13_qDrops, cX13_qDrops, 1, none)
abbrev mX13_qGoesOn : MethodName × ByteArray × Nat × Option FieldType := (yX13_qGoesOn, cX13_qGoesOn, 2, (some .boolean))
abbrev mX13_qBracket : MethodName × ByteArray × Nat × Option FieldType := (yX13_qBracket, cX13_qBracket, 2, (some .int))
abbrev mX13_qIsBracket : MethodName × ByteArray × Nat × Option FieldType := (yX13_qIsBracket, cX13_qIsBracket, 1, (some .boolean))
abbrev mX13_qDropsToBracket : MethodName × ByteArray × Nat × Option FieldType := (yX13_qDropsToBracket, cX13_qDropsToBracket, 1, none)
abbrev mX13_qIsOn : MethodName × ByteArray × Nat × Option FieldType := (yX13_qIsOn, cX13_qIsOn, 2, (some .boolean))
abbrev mX13_qDropsNots : MethodName × ByteArray × Nat × Option FieldType := (yX13_qDropsNots, cX13_qDropsNots, 1, none)
abbrev mX13_qGoesOnTest : MethodName × ByteArray × Nat × Option FieldType := (yX13_qGoesOnTest, cX13_qGoesOnTest, 1, (some .boolean))
abbrev mX13_qHasSquare : MethodName × ByteArray × Nat × Option FieldType := (yX13_qHasSquare, cX13_qHasSquare, 2, (some .boolean))
abbrev mX13_stands : MethodName × ByteArray × Nat × Option FieldType := (yX13_stands, cX13_stands, 2, none)
abbrev mX13_fault : MethodName × ByteArray × Nat × Option FieldType := (yX13_fault, cX13_fault, 2, (some .int))
abbrev mX13_has : MethodName × ByteArray × Nat × Option FieldType := (yX13_has, cX13_has, 2, (some .int))
abbrev mX13_thoseWho : MethodName × ByteArray × Nat × Option FieldType := (yX13_thoseWho, cX13_thoseWho, 4, (some .int))
abbrev mX13_personMany : MethodName × ByteArray × Nat × Option FieldType := (yX13_personMany, cX13_personMany, 1, (some .int))
abbrev mX13_bits : MethodName × ByteArray × Nat × Option FieldType := (yX13_bits, cX13_bits, 3, (some .int))
abbrev mX13_beliefs : MethodName × ByteArray × Nat × Option FieldType := (yX13_beliefs, cX13_beliefs, 4, (some .int))
abbrev mX13_rightOf : MethodName × ByteArray × Nat × Option FieldType := (yX13_rightOf, cX13_rightOf, 2, (some .int))
abbrev mX13_wrongOf : MethodName × ByteArray × Nat × Option FieldType := (yX13_wrongOf, cX13_wrongOf, 2, (some .int))
abbrev mX13_letter : MethodName × ByteArray × Nat × Option FieldType := (yX13_letter, cX13_letter, 9, (some .int))
abbrev mX13_fact : MethodName × ByteArray × Nat × Option FieldType := (yX13_fact, cX13_fact, 3, (some .int))
abbrev mX13_isFact : MethodName × ByteArray × Nat × Option FieldType := (yX13_isFact, cX13_isFact, 2, (some .boolean))
abbrev mX13_factMany : MethodName × ByteArray × Nat × Option FieldType := (yX13_factMany, cX13_factMany, 1, (some .int))
abbrev mX13_rightMany : MethodName × ByteArray × Nat × Option FieldType := (yX13_rightMany, cX13_rightMany, 4, (some .int))
abbrev mX13_wrongMany : MethodName × ByteArray × Nat × Option FieldType := (yX13_wrongMany, cX13_wrongMany, 4, (some .int))
abbrev mX13_person : MethodName × ByteArray × Nat × Option FieldType := (yX13_person, cX13_person, 3, (some .int))
abbrev mX13_isPerson : MethodName × ByteArray × Nat × Option FieldType := (yX13_isPerson, cX13_isPerson, 2, (some .boolean))
abbrev mX13_masterOf : MethodName × ByteArray × Nat × Option FieldType := (yX13_masterOf, cX13_masterOf, 2, (some .int))
abbrev mX13_pupilsOf : MethodName × ByteArray × Nat × Option FieldType := (yX13_pupilsOf, cX13_pupilsOf, 4, (some .int))
abbrev mX13_leftOf : MethodName × ByteArray × Nat × Option FieldType := (yX13_leftOf, cX13_leftOf, 2, (some .int))
abbrev mX13_hasPassed : MethodName × ByteArray × Nat × Option FieldType := (yX13_hasPassed, cX13_hasPassed, 2, (some .boolean))
abbrev mX13_isDoctor : MethodName × ByteArray × Nat × Option FieldType := (yX13_isDoctor, cX13_isDoctor, 2, (some .boolean))
abbrev mX13_marks : MethodName × ByteArray × Nat × Option FieldType := (yX13_marks, cX13_marks, 2, (some .long))
abbrev mX13_marksOf : MethodName × ByteArray × Nat × Option FieldType := (yX13_marksOf, cX13_marksOf, 4, (some .int))
abbrev mX13_next : MethodName × ByteArray × Nat × Option FieldType := (yX13_next, cX13_next, 2, (some .int))
abbrev mX13_taughtNext : MethodName × ByteArray × Nat × Option FieldType := (yX13_taughtNext, cX13_taughtNext, 6, (some .int))
abbrev mX13_isOf : MethodName × ByteArray × Nat × Option FieldType := (yX13_isOf, cX13_isOf, 3, (some .int))
abbrev mX13_holds : MethodName × ByteArray × Nat × Option FieldType := (yX13_holds, cX13_holds, 6, (some .boolean))
abbrev mX13_qPuts : MethodName × ByteArray × Nat × Option FieldType := (yX13_qPuts, cX13_qPuts, 3, none)
abbrev mX13_qPartOf : MethodName × ByteArray × Nat × Option FieldType := (yX13_qPartOf, cX13_qPartOf, 3, (some .long))
abbrev mX13_qJoins : MethodName × ByteArray × Nat × Option FieldType := (yX13_qJoins, cX13_qJoins, 6, none)
abbrev mX13_qClip : MethodName × ByteArray × Nat × Option FieldType := (yX13_qClip, cX13_qClip, 2, (some .long))
abbrev mX13_qFloor : MethodName × ByteArray × Nat × Option FieldType := (yX13_qFloor, cX13_qFloor, 6, (some .long))
abbrev mX13_kept : MethodName × ByteArray × Nat × Option FieldType := (yX13_kept, cX13_kept, 3, (some .int))
abbrev mX13_later : MethodName × ByteArray × Nat × Option FieldType := (yX13_later, cX13_later, 4, (some .int))
abbrev mX13_isAhead : MethodName × ByteArray × Nat × Option FieldType := (yX13_isAhead, cX13_isAhead, 4, (some .boolean))
abbrev mX13_putsAside : MethodName × ByteArray × Nat × Option FieldType := (yX13_putsAside, cX13_putsAside, 2, none)
abbrev mX13_yearsGo : MethodName × ByteArray × Nat × Option FieldType := (yX13_yearsGo, cX13_yearsGo, 3, none)
abbrev mX13_yearGoes : MethodName × ByteArray × Nat × Option FieldType := (yX13_yearGoes, cX13_yearGoes, 3, none)
abbrev mX13_allTaught : MethodName × ByteArray × Nat × Option FieldType := (yX13_allTaught, cX13_allTaught, 5, none)
abbrev mX13_makes : MethodName × ByteArray × Nat × Option FieldType := (yX13_makes, cX13_makes, 5, none)
abbrev mX13_sitsFor : MethodName × ByteArray × Nat × Option FieldType := (yX13_sitsFor, cX13_sitsFor, 2, none)
abbrev mX13_becomes : MethodName × ByteArray × Nat × Option FieldType := (yX13_becomes, cX13_becomes, 3, none)
abbrev mX13_isKept : MethodName × ByteArray × Nat × Option FieldType := (yX13_isKept, cX13_isKept, 4, none)
abbrev mX13_isMastersMaster : MethodName × ByteArray × Nat × Option FieldType := (yX13_isMastersMaster, cX13_isMastersMaster, 3, (some .boolean))
abbrev mX13_takesBack : MethodName × ByteArray × Nat × Option FieldType := (yX13_takesBack, cX13_takesBack, 1, none)
abbrev mX13_triesAnew : MethodName × ByteArray × Nat × Option FieldType := (yX13_triesAnew, cX13_triesAnew, 2, none)
abbrev mX13_doctor : MethodName × ByteArray × Nat × Option FieldType := (yX13_doctor, cX13_doctor, 4, (some .int))
abbrev mX13_lost : MethodName × ByteArray × Nat × Option FieldType := (yX13_lost, cX13_lost, 4, (some .int))
abbrev mX13_master : MethodName × ByteArray × Nat × Option FieldType := (yX13_master, cX13_master, 7, (some .int))
abbrev mX13_isTaughtBy : MethodName × ByteArray × Nat × Option FieldType := (yX13_isTaughtBy, cX13_isTaughtBy, 4, (some .boolean))
abbrev mX13_yearsTill : MethodName × ByteArray × Nat × Option FieldType := (yX13_yearsTill, cX13_yearsTill, 3, (some .int))
abbrev mX13_gift : MethodName × ByteArray × Nat × Option FieldType := (yX13_gift, cX13_gift, 9, (some .int))
abbrev mX13_isDoctorBehind : MethodName × ByteArray × Nat × Option FieldType := (yX13_isDoctorBehind, cX13_isDoctorBehind, 4, (some .boolean))
abbrev mX13_law : MethodName × ByteArray × Nat × Option FieldType := (yX13_law, cX13_law, 7, (some .int))
abbrev mX13_hear : MethodName × ByteArray × Nat × Option FieldType := (yX13_hear, cX13_hear, 4, (some .int))
abbrev mX13_sources : MethodName × ByteArray × Nat × Option FieldType := (yX13_sources, cX13_sources, 5, (some .int))
abbrev mX13_isSource : MethodName × ByteArray × Nat × Option FieldType := (yX13_isSource, cX13_isSource, 5, (some .boolean))
abbrev mX13_probe : MethodName × ByteArray × Nat × Option FieldType := (yX13_probe, cX13_probe, 9, (some .int))
abbrev mX13_part : MethodName × ByteArray × Nat × Option FieldType := (yX13_part, cX13_part, 6, (some .int))
abbrev mX13_areParted : MethodName × ByteArray × Nat × Option FieldType := (yX13_areParted, cX13_areParted, 6, (some .boolean))
abbrev mX13_undo : MethodName × ByteArray × Nat × Option FieldType := (yX13_undo, cX13_undo, 2, (some .boolean))
abbrev mX13_teach : MethodName × ByteArray × Nat × Option FieldType := (yX13_teach, cX13_teach, 3, (some .boolean))
abbrev mX13_keeps : MethodName × ByteArray × Nat × Option FieldType := (yX13_keeps, cX13_keeps, 2, none)
abbrev mX13_tell : MethodName × ByteArray × Nat × Option FieldType := (yX13_tell, cX13_tell, 3, (some .boolean))
abbrev mX13_years : MethodName × ByteArray × Nat × Option FieldType := (yX13_years, cX13_years, 2, (some .int))
abbrev mX13_seed : MethodName × ByteArray × Nat × Option FieldType := (yX13_seed, cX13_seed, 2, (some .boolean))
abbrev mX13_chance : MethodName × ByteArray × Nat × Option FieldType := (yX13_chance, cX13_chance, 6, (some .int))
abbrev mX13_drawOf : MethodName × ByteArray × Nat × Option FieldType := (yX13_drawOf, cX13_drawOf, 2, (some .int))
abbrev mX13_ask : MethodName × ByteArray × Nat × Option FieldType := (yX13_ask, cX13_ask, 4, (some .long))
abbrev mX13_qKind : MethodName × ByteArray × Nat × Option FieldType := (yX13_qKind, cX13_qKind, 2, (some .int))
abbrev mX13_qTold : MethodName × ByteArray × Nat × Option FieldType := (yX13_qTold, cX13_qTold, 4, (some .long))
abbrev mX13_qOf : MethodName × ByteArray × Nat × Option FieldType := (yX13_qOf, cX13_qOf, 5, (some .long))
abbrev mX13_qTakes : MethodName × ByteArray × Nat × Option FieldType := (yX13_qTakes, cX13_qTakes, 6, none)
abbrev mX13_image : MethodName × ByteArray × Nat × Option FieldType := (yX13_image, cX13_image, 3, (some .int))
abbrev mX13_writes : MethodName × ByteArray × Nat × Option FieldType := (yX13_writes, cX13_writes, 2, none)
abbrev mX13_checked : MethodName × ByteArray × Nat × Option FieldType := (yX13_checked, cX13_checked, 4, (some .int))
abbrev mX13_octet : MethodName × ByteArray × Nat × Option FieldType := (yX13_octet, cX13_octet, 2, (some .int))
abbrev mX13_on : MethodName × ByteArray × Nat × Option FieldType := (yX13_on, cX13_on, 4, (some .boolean))
abbrev mX13_isImage : MethodName × ByteArray × Nat × Option FieldType := (yX13_isImage, cX13_isImage, 3, (some .boolean))
abbrev mX13_isPersonTold : MethodName × ByteArray × Nat × Option FieldType := (yX13_isPersonTold, cX13_isPersonTold, 4, (some .boolean))
abbrev mX13_isRing : MethodName × ByteArray × Nat × Option FieldType := (yX13_isRing, cX13_isRing, 4, (some .boolean))
abbrev mX13_status : MethodName × ByteArray × Nat × Option FieldType := (yX13_status, cX13_status, 2, (some .int))
